import com.sun.source.tree.BinaryTree;
import com.sun.source.tree.ClassTree;
import com.sun.source.tree.CompilationUnitTree;
import com.sun.source.tree.ExpressionTree;
import com.sun.source.tree.ForLoopTree;
import com.sun.source.tree.IdentifierTree;
import com.sun.source.tree.LiteralTree;
import com.sun.source.tree.MethodInvocationTree;
import com.sun.source.tree.MethodTree;
import com.sun.source.tree.PrimitiveTypeTree;
import com.sun.source.tree.Tree;
import com.sun.source.tree.Tree.Kind;
import com.sun.source.tree.TypeCastTree;
import com.sun.source.tree.VariableTree;
import com.sun.source.util.JavacTask;
import com.sun.source.util.SourcePositions;
import com.sun.source.util.TreeScanner;
import com.sun.source.util.Trees;
import java.io.IOException;
import java.nio.file.Path;
import java.util.EnumMap;
import java.util.Map;
import java.util.Set;
import java.util.TreeMap;
import java.util.TreeSet;
import javax.lang.model.type.TypeKind;
import javax.tools.JavaCompiler;
import javax.tools.StandardJavaFileManager;
import javax.tools.ToolProvider;

/**
 * The rules of LANGUAGE.md that can be seen in the source. Where the class needs less than a rule
 * leaves (no array, no loop but for), the test asks for that, since it is easier to see.
 */
public final class LanguageTest {
    private static final Path SOURCE = Path.of("src", "main", "java", "HalfFloat.java");
    private static final Set<TypeKind> TYPES = Set.of(TypeKind.INT, TypeKind.LONG, TypeKind.SHORT,
        TypeKind.BYTE, TypeKind.CHAR, TypeKind.BOOLEAN);
    private static final Set<Kind> COMPARISONS = Set.of(Kind.EQUAL_TO, Kind.NOT_EQUAL_TO,
        Kind.LESS_THAN, Kind.LESS_THAN_EQUAL, Kind.GREATER_THAN, Kind.GREATER_THAN_EQUAL);
    private static final int MOST_LINES = 60;
    private static final int MOST_PARAMETERS = 7;
    private static final int MOST_DEPTH = 6;

    /** What does not come up at all, each with the number of its rule. */
    private static final Map<Kind, Integer> RULED_OUT = new EnumMap<>(Kind.class);

    static {
        ruleOut(2, Kind.FLOAT_LITERAL, Kind.DOUBLE_LITERAL, Kind.STRING_LITERAL);
        ruleOut(3, Kind.MEMBER_SELECT, Kind.IMPORT);
        ruleOut(4, Kind.NEW_ARRAY, Kind.NEW_CLASS, Kind.ARRAY_TYPE, Kind.NULL_LITERAL);
        ruleOut(6, Kind.THROW, Kind.TRY, Kind.CATCH, Kind.SYNCHRONIZED, Kind.ASSERT,
            Kind.INSTANCE_OF, Kind.LAMBDA_EXPRESSION, Kind.MEMBER_REFERENCE);
        ruleOut(7, Kind.DIVIDE_ASSIGNMENT, Kind.REMAINDER_ASSIGNMENT);
        ruleOut(8, Kind.WHILE_LOOP, Kind.DO_WHILE_LOOP, Kind.ENHANCED_FOR_LOOP);
    }

    private static CompilationUnitTree unit;
    private static SourcePositions positions;
    /** For each method of the class the methods that it calls. */
    private static final Map<String, Set<String>> CALLED = new TreeMap<>();

    private LanguageTest() {
    }

    private static void ruleOut(int rule, Kind... kinds) {
        for (Kind kind : kinds) {
            RULED_OUT.put(kind, rule);
        }
    }

    private static void readSource() throws IOException {
        JavaCompiler compiler = ToolProvider.getSystemJavaCompiler();
        try (StandardJavaFileManager files = compiler.getStandardFileManager(null, null, null)) {
            JavacTask task = (JavacTask) compiler.getTask(
                null, files, null, null, null, files.getJavaFileObjects(SOURCE));
            unit = task.parse().iterator().next();
            positions = Trees.instance(task).getSourcePositions();
        }
    }

    private static long lineOf(long position) {
        return unit.getLineMap().getLineNumber(position);
    }

    private static void rule(int number, boolean kept, Tree tree, String what) {
        long line = lineOf(positions.getStartPosition(unit, tree));
        Check.holds(kept, "rule " + number + ", line " + line + ": " + what);
    }

    /** Rules 2, 3, 4, 6 and 8, over the whole source. */
    private static final class Words extends TreeScanner<Void, Void> {
        @Override public Void scan(Tree tree, Void none) {
            if (tree != null) {
                Integer number = RULED_OUT.get(tree.getKind());
                rule(number == null ? 0 : number, number == null, tree, "no " + tree.getKind());
            }
            return super.scan(tree, none);
        }

        @Override public Void visitPrimitiveType(PrimitiveTypeTree tree, Void none) {
            rule(2, TYPES.contains(tree.getPrimitiveTypeKind()), tree, "a type that is left");
            return super.visitPrimitiveType(tree, none);
        }

        @Override public Void visitVariable(VariableTree tree, Void none) {
            rule(2, tree.getType() instanceof PrimitiveTypeTree, tree, "numbers alone");
            return super.visitVariable(tree, none);
        }

        @Override public Void visitTypeCast(TypeCastTree tree, Void none) {
            rule(6, tree.getType() instanceof PrimitiveTypeTree, tree, "a cast of a number");
            return super.visitTypeCast(tree, none);
        }

        @Override public Void visitForLoop(ForLoopTree tree, Void none) {
            ExpressionTree condition = tree.getCondition();
            boolean bound = condition != null && COMPARISONS.contains(condition.getKind());
            boolean counts = tree.getInitializer().size() == 1 && tree.getUpdate().size() == 1;
            rule(8, bound && counts, tree, "a counter against a bound");
            return super.visitForLoop(tree, none);
        }
    }

    /** Rule 7 in one method: a divisor is a literal, or a name that was compared before. */
    private static final class Divisors extends TreeScanner<Void, Void> {
        private final Set<String> looked = new TreeSet<>();

        @Override public Void visitBinary(BinaryTree tree, Void none) {
            if (COMPARISONS.contains(tree.getKind())) {
                looked.add(tree.getLeftOperand().toString());
            }
            if (tree.getKind() == Kind.DIVIDE || tree.getKind() == Kind.REMAINDER) {
                ExpressionTree under = tree.getRightOperand();
                boolean safe = under instanceof LiteralTree || looked.contains(under.toString());
                rule(7, safe, tree, "a divisor that was looked at");
            }
            return super.visitBinary(tree, none);
        }
    }

    /** Rules 3 and 10 in one method: what it calls, and with what. */
    private static final class CallsOf extends TreeScanner<Void, Void> {
        private final Set<String> called = new TreeSet<>();
        private boolean insideArguments = false;

        @Override public Void visitMethodInvocation(MethodInvocationTree tree, Void none) {
            ExpressionTree name = tree.getMethodSelect();
            rule(3, name instanceof IdentifierTree, tree, "a call by name");
            rule(10, !insideArguments, tree, "no call inside the arguments of another");
            called.add(name.toString());
            boolean before = insideArguments;
            insideArguments = true;
            scan(tree.getArguments(), none);
            insideArguments = before;
            return null;
        }
    }

    private static void method(MethodTree tree) {
        long first = lineOf(positions.getStartPosition(unit, tree));
        long last = lineOf(positions.getEndPosition(unit, tree));
        rule(10, last - first < MOST_LINES, tree, "a short method");
        rule(10, tree.getParameters().size() <= MOST_PARAMETERS, tree, "few parameters");
        new Divisors().scan(tree.getBody(), null);
        CallsOf calls = new CallsOf();
        calls.scan(tree.getBody(), null);
        CALLED.put(tree.getName().toString(), calls.called);
    }

    /** Beyond the most that may be, the search ends: a ring of calls comes out as too deep. */
    private static int depth(String name, int reached) {
        int deepest = 1;
        for (String next : CALLED.getOrDefault(name, Set.of())) {
            if (reached <= MOST_DEPTH) {
                deepest = Math.max(deepest, 1 + depth(next, reached + 1));
            }
        }
        return deepest;
    }

    private static void field(Tree tree) {
        CallsOf calls = new CallsOf();
        calls.scan(tree, null);
        rule(5, calls.called.isEmpty(), tree, "a constant that no call makes");
    }

    private static void members(ClassTree tree) {
        for (Tree member : tree.getMembers()) {
            if (member instanceof MethodTree) {
                method((MethodTree) member);
            } else {
                rule(1, member instanceof VariableTree, member, "methods and fields alone");
                field(member);
            }
        }
        for (String name : CALLED.keySet()) {
            boolean own = CALLED.keySet().containsAll(CALLED.get(name));
            Check.holds(own, "rule 3: " + name + " calls methods of this class alone");
            Check.holds(depth(name, 1) <= MOST_DEPTH, "rules 8 and 10: the depth of " + name);
        }
    }

    public static void main(String[] args) throws IOException {
        readSource();
        Check.holds(unit.getPackageName() == null, "no package line");
        Check.due(unit.getTypeDecls().size(), 1, "rule 1: the number of classes");
        new Words().scan(unit, null);
        members((ClassTree) unit.getTypeDecls().get(0));
        Check.finish();
    }
}
