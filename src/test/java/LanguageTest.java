import com.sun.source.tree.BinaryTree;
import com.sun.source.tree.BlockTree;
import com.sun.source.tree.ClassTree;
import com.sun.source.tree.CompilationUnitTree;
import com.sun.source.tree.ExpressionTree;
import com.sun.source.tree.ForLoopTree;
import com.sun.source.tree.IdentifierTree;
import com.sun.source.tree.MethodInvocationTree;
import com.sun.source.tree.MethodTree;
import com.sun.source.tree.NewArrayTree;
import com.sun.source.tree.Tree;
import com.sun.source.tree.Tree.Kind;
import com.sun.source.tree.VariableTree;
import com.sun.source.util.JavacTask;
import com.sun.source.util.TreeScanner;
import com.sun.source.util.Trees;
import java.io.IOException;
import java.util.EnumSet;
import java.util.List;
import java.util.Map;
import java.util.Set;
import java.util.TreeMap;
import java.util.TreeSet;
import javax.lang.model.element.Modifier;
import javax.tools.JavaCompiler;
import javax.tools.StandardJavaFileManager;
import javax.tools.ToolProvider;

/** The rules of LANGUAGE.md, as far as the shape of the source shows whether they are kept. */
public final class LanguageTest extends TreeScanner<Void, Void> {
    private static final Due DUE = new Due();
    private static final String SOURCE = "src/main/java/ConnectionProver.java";

    /** Rules 2, 3, 4, 6 and 8: what stands nowhere in the program, while loops not being needed. */
    private static final Set<Kind> RULED_OUT = EnumSet.of(Kind.IMPORT, Kind.PACKAGE, Kind.MEMBER_SELECT,
            Kind.STRING_LITERAL, Kind.FLOAT_LITERAL, Kind.DOUBLE_LITERAL, Kind.NULL_LITERAL,
            Kind.NEW_CLASS, Kind.THROW, Kind.TRY, Kind.SYNCHRONIZED, Kind.ASSERT, Kind.INSTANCE_OF,
            Kind.LAMBDA_EXPRESSION, Kind.MEMBER_REFERENCE, Kind.TYPE_CAST, Kind.ENHANCED_FOR_LOOP,
            Kind.WHILE_LOOP, Kind.DO_WHILE_LOOP, Kind.ANNOTATION);
    private static final Set<String> TYPES = Set.of("int", "long", "boolean", "int[]");

    private final CompilationUnitTree unit;
    private final Trees trees;
    private final Map<String, Set<String>> calls = new TreeMap<>();
    private String method = null;
    private boolean inArgument = false;
    private int fields = 0;

    private LanguageTest(CompilationUnitTree unit, Trees trees) {
        this.unit = unit;
        this.trees = trees;
    }

    public static void main(String[] args) throws IOException {
        JavaCompiler compiler = ToolProvider.getSystemJavaCompiler();
        try (StandardJavaFileManager files = compiler.getStandardFileManager(null, null, null)) {
            JavacTask task = (JavacTask) compiler.getTask(null, files, null, null, null,
                    files.getJavaFileObjects(SOURCE));
            CompilationUnitTree unit = task.parse().iterator().next();
            LanguageTest test = new LanguageTest(unit, Trees.instance(task));
            DUE.due("classes in the file", unit.getTypeDecls().size(), 1);
            test.scan(unit, null);
            test.callsEnd();
            DUE.due("fields beside the constants, " + test.fields, test.fields <= 40, true);
        }
        DUE.finish();
    }

    private String where(Tree tree) {
        long position = trees.getSourcePositions().getStartPosition(unit, tree);
        return " at line " + unit.getLineMap().getLineNumber(position);
    }

    @Override
    public Void scan(Tree tree, Void none) {
        if (tree != null) {
            DUE.due(tree.getKind() + where(tree), RULED_OUT.contains(tree.getKind()), false);
        }
        return super.scan(tree, none);
    }

    @Override
    public Void visitClass(ClassTree tree, Void none) {
        for (Tree member : tree.getMembers()) {
            boolean plain = member instanceof VariableTree || member instanceof MethodTree;
            DUE.due("rule 1, a field or a method" + where(member), plain, true);
            if (member instanceof VariableTree field) {
                field(field);
            }
        }
        return super.visitClass(tree, none);
    }

    private void field(VariableTree field) {
        Set<Modifier> modifiers = field.getModifiers().getFlags();
        if (modifiers.contains(Modifier.STATIC)) {
            boolean constant = modifiers.contains(Modifier.FINAL)
                    && Set.of("int", "long").contains(field.getType().toString());
            DUE.due("rule 5, a constant" + where(field), constant, true);
        } else {
            fields++;
            DUE.due("rule 1, a private field" + where(field), modifiers.contains(Modifier.PRIVATE), true);
            boolean array = field.getType().toString().endsWith("[]");
            DUE.due("rule 4, a final array" + where(field),
                    !array || modifiers.contains(Modifier.FINAL), true);
        }
    }

    @Override
    public Void visitVariable(VariableTree tree, Void none) {
        DUE.due("rule 2, the type " + tree.getType() + where(tree),
                TYPES.contains(tree.getType().toString()), true);
        return super.visitVariable(tree, none);
    }

    @Override
    public Void visitNewArray(NewArrayTree tree, Void none) {
        DUE.due("rule 4, an array made in a method" + where(tree), method == null, true);
        DUE.due("rule 4, dimensions" + where(tree), tree.getDimensions().size(), 1);
        for (ExpressionTree length : tree.getDimensions()) {
            boolean constant = length.getKind() == Kind.INT_LITERAL || length instanceof IdentifierTree;
            DUE.due("rule 4, a constant length" + where(tree), constant, true);
        }
        return super.visitNewArray(tree, none);
    }

    @Override
    public Void visitMethod(MethodTree tree, Void none) {
        method = tree.getName().toString();
        calls.put(method, new TreeSet<>());
        DUE.due("rule 10, parameters of " + method, tree.getParameters().size() <= 7, true);
        BlockTree body = tree.getBody();
        long lines = unit.getLineMap().getLineNumber(trees.getSourcePositions().getEndPosition(unit, body))
                - unit.getLineMap().getLineNumber(trees.getSourcePositions().getStartPosition(unit, tree));
        DUE.due("rule 10, lines of " + method, lines < 60, true);
        super.visitMethod(tree, none);
        method = null;
        return null;
    }

    @Override
    public Void visitMethodInvocation(MethodInvocationTree tree, Void none) {
        calls.get(method).add(tree.getMethodSelect().toString());
        DUE.due("rule 10, a call in an argument" + where(tree), inArgument, false);
        boolean before = inArgument;
        inArgument = true;
        super.visitMethodInvocation(tree, none);
        inArgument = before;
        return null;
    }

    @Override
    public Void visitForLoop(ForLoopTree tree, Void none) {
        DUE.due("rule 8, a counter" + where(tree), tree.getUpdate().size(), 1);
        ExpressionTree condition = tree.getCondition();
        while (condition != null && condition.getKind() == Kind.CONDITIONAL_AND) {
            condition = ((BinaryTree) condition).getLeftOperand();
        }
        boolean bound = condition != null && EnumSet.of(Kind.LESS_THAN, Kind.LESS_THAN_EQUAL,
                Kind.GREATER_THAN, Kind.GREATER_THAN_EQUAL).contains(condition.getKind());
        DUE.due("rule 8, a bound" + where(tree), bound, true);
        return super.visitForLoop(tree, none);
    }

    /** Rules 8 and 10: from no method do calls go more than six deep, which recursion would. */
    private void callsEnd() {
        Set<String> reached = new TreeSet<>(calls.keySet());
        for (int depth = 1; depth <= 6; depth++) {
            Set<String> next = new TreeSet<>();
            for (String name : reached) {
                next.addAll(calls.getOrDefault(name, Set.of()));
            }
            reached = next;
        }
        DUE.due("rule 10, calls more than six deep to " + List.copyOf(reached), reached.isEmpty(), true);
    }
}
