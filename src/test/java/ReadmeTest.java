import java.io.IOException;
import java.lang.reflect.Method;
import java.nio.file.Files;
import java.nio.file.Path;
import java.util.regex.Matcher;
import java.util.regex.Pattern;

/** The example of README.md: each call has the answer that begins the comment beside it. */
public final class ReadmeTest {
    private static final Due DUE = new Due();
    private static final String BEGIN = "ConnectionProver p = new ConnectionProver();";
    private static final Pattern CALL = Pattern.compile("p\\.(\\w+)\\((.*)\\);(?:\\s+// ([\\w-]+)(?::.*)?)?");

    private static ConnectionProver p = null;

    public static void main(String[] args) throws IOException, ReflectiveOperationException {
        boolean inside = false;
        for (String line : Files.readAllLines(Path.of("README.md"))) {
            if (line.startsWith("```")) {
                inside = line.equals("```java");
            } else if (inside) {
                run(line);
            }
        }
        everyMethodIsNamed();
        DUE.finish();
    }

    private static void run(String line) throws ReflectiveOperationException {
        Matcher call = CALL.matcher(line);
        if (line.equals(BEGIN)) {
            p = new ConnectionProver();
        } else if (call.matches()) {
            answer(line, call.group(1), call.group(2), call.group(3));
        } else {
            DUE.due("a line that is no call: " + line, true, false);
        }
    }

    private static void answer(String line, String name, String arguments, String want)
            throws ReflectiveOperationException {
        String[] words = arguments.isEmpty() ? new String[0] : arguments.split(", ");
        Class<?>[] types = new Class<?>[words.length];
        Object[] numbers = new Object[words.length];
        for (int i = 0; i < words.length; i++) {
            types[i] = int.class;
            numbers[i] = number(words[i].replace("ConnectionProver.", ""));
        }
        Method method = ConnectionProver.class.getMethod(name, types);
        Object got = method.invoke(p, numbers);
        DUE.due("has an answer written: " + line, want != null, method.getReturnType() != void.class);
        if (got instanceof Boolean) {
            DUE.due(line, (Boolean) got, Boolean.parseBoolean(want));
        } else if (got != null) {
            DUE.due(line, (Integer) got, number(want));
        }
    }

    private static int number(String word) throws ReflectiveOperationException {
        if (word.matches("-?\\d+")) {
            return Integer.parseInt(word);
        }
        return ConnectionProver.class.getField(word).getInt(null);
    }

    private static void everyMethodIsNamed() throws IOException {
        String text = Files.readString(Path.of("README.md"));
        for (Method method : ConnectionProver.class.getMethods()) {
            if (method.getDeclaringClass() == ConnectionProver.class) {
                DUE.due("README.md names " + method.getName(), text.contains(method.getName() + "("), true);
            }
        }
    }
}
