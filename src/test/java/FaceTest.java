import java.lang.reflect.Constructor;
import java.lang.reflect.Field;
import java.lang.reflect.Method;
import java.lang.reflect.Modifier;
import java.util.Map;
import java.util.Set;
import java.util.TreeMap;
import java.util.TreeSet;

/** The public face: every constant, constructor and method of the document, and no other. */
public final class FaceTest {
    private static final Due DUE = new Due();

    private static final Map<String, Integer> CONSTANTS = new TreeMap<>();

    private static final Set<String> METHODS = Set.of(
            "int addLiteral(int, int, int, int)", "int endClause()", "void clearClauses()",
            "int getClauseCount()", "int getClauseLength(int)", "int getLiteral(int, int)",
            "int getGroundAtoms()", "int prove()", "boolean hasProof()", "int adoptProof()",
            "void clearProof()", "boolean isSealed()", "int addStep(int, int, int)",
            "int bind(int, int, int, int)", "int check()", "int getCheckStep()");

    public static void main(String[] args) throws IllegalAccessException {
        listConstants();
        constants();
        methods();
        DUE.finish();
    }

    private static void listConstants() {
        String all = "T_NONE -1 T_C0 0 T_C1 1 T_X0 2 T_X1 3 STEP_START 0 STEP_EXT 1 STEP_RED 2 "
                + "MAX_CLAUSES 8 MAX_CLAUSE_LITS 3 MAX_LITS 16 MAX_GROUND 5 MAX_STEPS 256 "
                + "OK 0 ERR_ARG -1 ERR_FULL -2 ERR_ARITY -3 ERR_TOO_BIG -4 ERR_SEALED -5 "
                + "ERR_NO_PROOF -6 PROVED 1 NOT_PROVED 2 VALID 0 CHK_EMPTY -10 CHK_START -11 "
                + "CHK_CLAUSE -12 CHK_LIT -13 CHK_PATH -14 CHK_COMPLEMENT -15 CHK_ARGS -16 "
                + "CHK_CYCLE -17 CHK_EXTRA -18 CHK_OPEN -19";
        String[] words = all.split(" ");
        for (int i = 0; i < words.length; i += 2) {
            CONSTANTS.put(words[i], Integer.parseInt(words[i + 1]));
        }
    }

    private static void constants() throws IllegalAccessException {
        Map<String, Integer> seen = new TreeMap<>();
        for (Field field : ConnectionProver.class.getDeclaredFields()) {
            int m = field.getModifiers();
            if (Modifier.isPrivate(m)) {
                continue;
            }
            boolean constant = Modifier.isPublic(m) && Modifier.isStatic(m) && Modifier.isFinal(m)
                    && field.getType() == int.class;
            DUE.due("public static final int " + field.getName(), constant, true);
            if (constant) {
                seen.put(field.getName(), field.getInt(null));
            }
        }
        DUE.due("the constants " + seen, seen.equals(CONSTANTS), true);
    }

    private static void methods() {
        DUE.due("public final class",
                ConnectionProver.class.getModifiers(), Modifier.PUBLIC | Modifier.FINAL);
        Set<String> seen = new TreeSet<>();
        Set<String> publicNames = new TreeSet<>();
        for (Method method : ConnectionProver.class.getDeclaredMethods()) {
            if (!Modifier.isPrivate(method.getModifiers())) {
                DUE.due("modifiers of " + method.getName(), method.getModifiers(), Modifier.PUBLIC);
                seen.add(signature(method));
                publicNames.add(method.getName());
            }
        }
        DUE.due("the methods " + seen, seen.equals(METHODS), true);
        for (Method method : ConnectionProver.class.getDeclaredMethods()) {
            if (Modifier.isPrivate(method.getModifiers())) {
                DUE.due("a private " + method.getName(), publicNames.contains(method.getName()), false);
            }
        }
        Constructor<?>[] constructors = ConnectionProver.class.getDeclaredConstructors();
        DUE.due("constructors", constructors.length, 1);
        DUE.due("constructor parameters", constructors[0].getParameterCount(), 0);
        DUE.due("public constructor", constructors[0].getModifiers(), Modifier.PUBLIC);
        DUE.due("nested classes", ConnectionProver.class.getDeclaredClasses().length, 0);
    }

    private static String signature(Method method) {
        StringBuilder text = new StringBuilder(method.getReturnType() + " " + method.getName() + "(");
        for (Class<?> type : method.getParameterTypes()) {
            text.append(text.charAt(text.length() - 1) == '(' ? "" : ", ").append(type);
        }
        return text.append(")").toString();
    }
}
