import com.sun.source.tree.ArrayAccessTree;
import com.sun.source.tree.AssignmentTree;
import com.sun.source.tree.BinaryTree;
import com.sun.source.tree.BlockTree;
import com.sun.source.tree.ClassTree;
import com.sun.source.tree.CompilationUnitTree;
import com.sun.source.tree.CompoundAssignmentTree;
import com.sun.source.tree.DoWhileLoopTree;
import com.sun.source.tree.ExpressionTree;
import com.sun.source.tree.ForLoopTree;
import com.sun.source.tree.IdentifierTree;
import com.sun.source.tree.LiteralTree;
import com.sun.source.tree.MethodInvocationTree;
import com.sun.source.tree.MethodTree;
import com.sun.source.tree.NewArrayTree;
import com.sun.source.tree.ParenthesizedTree;
import com.sun.source.tree.Tree;
import com.sun.source.tree.Tree.Kind;
import com.sun.source.tree.TypeCastTree;
import com.sun.source.tree.UnaryTree;
import com.sun.source.tree.VariableTree;
import com.sun.source.tree.WhileLoopTree;
import com.sun.source.util.JavacTask;
import com.sun.source.util.SourcePositions;
import com.sun.source.util.TreeScanner;
import com.sun.source.util.Trees;
import java.io.IOException;
import java.nio.file.Path;
import java.util.EnumSet;
import java.util.HashMap;
import java.util.HashSet;
import java.util.Map;
import java.util.Set;
import java.util.TreeMap;
import java.util.TreeSet;
import javax.lang.model.element.Modifier;
import javax.tools.JavaCompiler;
import javax.tools.StandardJavaFileManager;
import javax.tools.ToolProvider;

/**
 * The rules of LANGUAGE.md that can be read off the source. Where a rule is wide, this test asks for the
 * narrower form that the class has: a loop is one counter against a constant, and a method knows no array
 * but the fields. Rule 7 is left to the other tests, which would end with a stack trace.
 */
public final class LanguageTest {
    private static final Set<String> TYPES = Set.of("int", "long", "short", "byte", "char", "boolean", "void",
        "int[]", "long[]", "short[]", "byte[]", "char[]", "boolean[]");

    /** What the class is made of; any other kind of Java is told, rules 2 to 4 and 6. */
    private static final Set<Kind> PLAIN_JAVA = EnumSet.of(
        Kind.CLASS, Kind.MODIFIERS, Kind.VARIABLE, Kind.METHOD, Kind.BLOCK, Kind.PRIMITIVE_TYPE, Kind.ARRAY_TYPE,
        Kind.NEW_ARRAY, Kind.IDENTIFIER, Kind.INT_LITERAL, Kind.LONG_LITERAL, Kind.CHAR_LITERAL, Kind.BOOLEAN_LITERAL,
        Kind.EXPRESSION_STATEMENT, Kind.ASSIGNMENT, Kind.RETURN, Kind.IF, Kind.FOR_LOOP, Kind.WHILE_LOOP,
        Kind.DO_WHILE_LOOP, Kind.BREAK, Kind.CONTINUE, Kind.LABELED_STATEMENT, Kind.SWITCH, Kind.CASE,
        Kind.CONDITIONAL_EXPRESSION, Kind.PARENTHESIZED, Kind.TYPE_CAST, Kind.ARRAY_ACCESS, Kind.METHOD_INVOCATION,
        Kind.EMPTY_STATEMENT);

    private static final Set<Modifier> MODIFIERS =
        EnumSet.of(Modifier.PUBLIC, Modifier.PRIVATE, Modifier.STATIC, Modifier.FINAL);

    private static final int MOST_LINES = 60;
    private static final int MOST_PARAMETERS = 7;
    private static final int DEEPEST = 6;
    private static final int MOST_FIELDS = 40;

    private static int wrong = 0;

    private static CompilationUnitTree unit;
    private static SourcePositions positions;
    private static final Map<String, Long> constants = new HashMap<>();
    private static final Set<String> arrays = new HashSet<>();
    private static final Map<String, Set<String>> calls = new TreeMap<>();

    private static long line(long position) {
        return unit.getLineMap().getLineNumber(position);
    }

    private static void fault(int rule, Tree where, String what) {
        wrong++;
        System.out.println("rule " + rule + ", line " + line(positions.getStartPosition(unit, where)) + ": " + what);
    }

    /** A literal or the name of a constant, and its value; null when it is neither. */
    private static Long constant(ExpressionTree expression) {
        if (expression instanceof LiteralTree literal && literal.getValue() instanceof Number number) {
            return number.longValue();
        }
        if (expression instanceof UnaryTree unary && unary.getKind() == Kind.UNARY_MINUS) {
            Long value = constant(unary.getExpression());
            return value == null ? null : Long.valueOf(-value);
        }
        return expression instanceof IdentifierTree name ? constants.get(name.getName().toString()) : null;
    }

    private static String nameOf(Tree expression) {
        return expression instanceof IdentifierTree name ? name.getName().toString() : "";
    }

    // ---- Fields, rules 4 and 5

    private static void field(VariableTree field) {
        String name = field.getName().toString();
        Set<Modifier> modifiers = field.getModifiers().getFlags();
        if (!MODIFIERS.containsAll(modifiers)) {
            fault(1, field, "a modifier that the class has no use for: " + name);
        }
        boolean isArray = field.getType().getKind() == Kind.ARRAY_TYPE;
        if (modifiers.contains(Modifier.STATIC)) {
            Long value = field.getInitializer() == null ? null : constant(field.getInitializer());
            boolean isNumber = Set.of("int", "long").contains(field.getType().toString());
            if (value == null || !isNumber || !modifiers.contains(Modifier.FINAL)) {
                fault(5, field, "static field that is no constant of int or long: " + name);
            } else {
                constants.put(name, value);
            }
        } else if (isArray) {
            arrays.add(name);
            arrayField(field);
        }
    }

    private static void arrayField(VariableTree field) {
        if (!(field.getInitializer() instanceof NewArrayTree made)) {
            fault(4, field, "array that is not made in its field's initialiser: " + field.getName());
            return;
        }
        Long length = made.getDimensions().size() == 1 ? constant(made.getDimensions().get(0)) : null;
        if (length == null || length < 1 || made.getInitializers() != null) {
            fault(4, field, "array without a constant length of 1 or more: " + field.getName());
        }
    }

    // ---- Methods, rules 4 and 10

    private static void method(MethodTree method) {
        String name = method.getName().toString();
        if (method.getParameters().size() > MOST_PARAMETERS) {
            fault(10, method, "more than seven parameters: " + name);
        }
        long first = line(positions.getStartPosition(unit, method));
        long last = line(positions.getEndPosition(unit, method));
        if (last - first + 1 > MOST_LINES) {
            fault(10, method, "more than sixty lines: " + name);
        }
        if (!MODIFIERS.containsAll(method.getModifiers().getFlags()) || !method.getThrows().isEmpty()) {
            fault(6, method, "a modifier or exceptions that the document's face has not: " + name);
        }
        if (method.getReturnType() != null && method.getReturnType().getKind() == Kind.ARRAY_TYPE) {
            fault(4, method, "answers an array: " + name);
        }
        if (calls.put(name, new TreeSet<>()) != null) {
            fault(1, method, "two methods with one name: " + name);
        }
        new Body(name).scan(method.getBody(), null);
    }

    private static final class Body extends TreeScanner<Void, Void> {
        private final String method;
        private boolean insideArguments = false;

        Body(String method) {
            this.method = method;
        }

        @Override
        public Void visitMethodInvocation(MethodInvocationTree call, Void none) {
            String name = nameOf(call.getMethodSelect());
            calls.get(method).add(name);
            if (insideArguments) {
                fault(10, call, "call inside the arguments of another call: " + call);
            }
            boolean outer = insideArguments;
            insideArguments = true;
            scan(call.getArguments(), none);
            insideArguments = outer;
            return null;
        }

        @Override
        public Void visitNewArray(NewArrayTree made, Void none) {
            fault(4, made, "array made outside a field's initialiser");
            return super.visitNewArray(made, none);
        }

        @Override
        public Void visitVariable(VariableTree variable, Void none) {
            if (variable.getType() != null && variable.getType().getKind() == Kind.ARRAY_TYPE) {
                fault(4, variable, "local variable that names an array: " + variable.getName());
            }
            return super.visitVariable(variable, none);
        }

        @Override
        public Void visitArrayAccess(ArrayAccessTree access, Void none) {
            if (!arrays.contains(nameOf(access.getExpression()))) {
                fault(4, access, "index into what is no array field: " + access);
            }
            return scan(access.getIndex(), none);
        }

        @Override
        public Void visitIdentifier(IdentifierTree name, Void none) {
            // An element is reached through visitArrayAccess: what comes here is the array as a whole.
            if (arrays.contains(name.getName().toString())) {
                fault(4, name, "array used as a whole: " + name);
            }
            return null;
        }

        @Override
        public Void visitForLoop(ForLoopTree loop, Void none) {
            String counter = loop.getInitializer().size() == 1
                && loop.getInitializer().get(0) instanceof VariableTree variable ? variable.getName().toString() : "";
            boolean steps = loop.getUpdate().size() == 1
                && loop.getUpdate().get(0).getExpression() instanceof UnaryTree unary
                && unary.getKind() == Kind.POSTFIX_INCREMENT && nameOf(unary.getExpression()).equals(counter);
            if (!steps || !counter.equals(bounded(loop.getCondition())) || changes(loop.getStatement(), counter) != 0) {
                fault(8, loop, "loop that is not one counter against a constant");
            }
            return super.visitForLoop(loop, none);
        }

        @Override
        public Void visitWhileLoop(WhileLoopTree loop, Void none) {
            String counter = bounded(loop.getCondition());
            if (counter.isEmpty() || !stepsOnce(loop.getStatement(), counter)) {
                fault(8, loop, "loop that is not one counter against a constant");
            }
            return super.visitWhileLoop(loop, none);
        }

        @Override
        public Void visitDoWhileLoop(DoWhileLoopTree loop, Void none) {
            fault(8, loop, "do loop, which this test cannot judge");
            return super.visitDoWhileLoop(loop, none);
        }
    }

    // ---- Loops, rule 8

    /** The name that must be less than a constant for the condition to hold, or nothing. */
    private static String bounded(ExpressionTree condition) {
        if (condition instanceof ParenthesizedTree inner) {
            return bounded(inner.getExpression());
        }
        if (!(condition instanceof BinaryTree binary)) {
            return "";
        }
        if (binary.getKind() == Kind.CONDITIONAL_AND) {
            return bounded(binary.getLeftOperand());
        }
        boolean isBound = binary.getKind() == Kind.LESS_THAN && constant(binary.getRightOperand()) != null;
        return isBound ? nameOf(binary.getLeftOperand()) : "";
    }

    /** The counter is stepped by a statement of the body itself, so that no turn passes it by. */
    private static boolean stepsOnce(Tree body, String counter) {
        if (!(body instanceof BlockTree block) || changes(body, counter) != 1) {
            return false;
        }
        return block.getStatements().stream().anyMatch(s -> s.toString().equals(counter + "++;"))
            && !block.toString().contains("continue");
    }

    private static int changes(Tree body, String name) {
        int[] count = {0};
        new TreeScanner<Void, Void>() {
            @Override
            public Void visitUnary(UnaryTree unary, Void none) {
                boolean isStep = unary.getKind().name().matches("(POST|PRE)FIX_.*");
                count[0] += isStep && nameOf(unary.getExpression()).equals(name) ? 1 : 0;
                return super.visitUnary(unary, none);
            }

            @Override
            public Void visitAssignment(AssignmentTree assignment, Void none) {
                count[0] += nameOf(assignment.getVariable()).equals(name) ? 1 : 0;
                return super.visitAssignment(assignment, none);
            }

            @Override
            public Void visitCompoundAssignment(CompoundAssignmentTree assignment, Void none) {
                count[0] += nameOf(assignment.getVariable()).equals(name) ? 1 : 0;
                return super.visitCompoundAssignment(assignment, none);
            }
        }.scan(body, null);
        return count[0];
    }

    // ---- The whole file

    private static final class Words extends TreeScanner<Void, Void> {
        @Override
        public Void scan(Tree tree, Void none) {
            if (tree != null) {
                boolean isPlain = tree instanceof BinaryTree || tree instanceof UnaryTree
                    || tree instanceof CompoundAssignmentTree || PLAIN_JAVA.contains(tree.getKind());
                if (!isPlain) {
                    fault(6, tree, "ruled out by rules 2 to 6, or unknown to this test: " + tree.getKind() + " " + tree);
                }
            }
            return super.scan(tree, none);
        }

        @Override
        public Void visitVariable(VariableTree variable, Void none) {
            type(variable, variable.getType());
            return super.visitVariable(variable, none);
        }

        @Override
        public Void visitMethod(MethodTree method, Void none) {
            if (method.getReturnType() != null) {
                type(method, method.getReturnType());
            }
            return super.visitMethod(method, none);
        }

        @Override
        public Void visitTypeCast(TypeCastTree cast, Void none) {
            type(cast, cast.getType());
            return super.visitTypeCast(cast, none);
        }

        private static void type(Tree where, Tree type) {
            // There is no type where the source says var.
            if (type == null || !TYPES.contains(type.toString())) {
                fault(2, where, "type " + type);
            }
        }
    }

    private static void members(ClassTree type) {
        int fields = 0;
        for (Tree member : type.getMembers()) {
            if (member instanceof VariableTree variable) {
                field(variable);
                fields += variable.getModifiers().getFlags().contains(Modifier.STATIC) ? 0 : 1;
            }
        }
        if (fields > MOST_FIELDS) {
            fault(10, type, "more than forty fields");
        }
        for (Tree member : type.getMembers()) {
            if (member instanceof MethodTree method) {
                method(method);
            } else if (!(member instanceof VariableTree)) {
                fault(1, member, "member that is neither a field nor a method");
            }
        }
    }

    private static Set<String> reached(String method) {
        Set<String> seen = new TreeSet<>(calls.get(method));
        int before = 0;
        while (before < seen.size()) {
            before = seen.size();
            for (String called : Set.copyOf(seen)) {
                seen.addAll(calls.getOrDefault(called, Set.of()));
            }
        }
        return seen;
    }

    /** How many calls deep a method goes, itself counted. */
    private static int depth(String method) {
        int deepest = 0;
        for (String called : calls.getOrDefault(method, Set.of())) {
            deepest = Math.max(deepest, depth(called));
        }
        return deepest + 1;
    }

    private static void callGraph(ClassTree type) {
        int recursive = 0;
        for (String method : calls.keySet()) {
            Set<String> reached = reached(method);
            if (!calls.keySet().containsAll(reached)) {
                fault(3, type, method + " calls what is not of the class: " + reached);
            }
            if (reached.contains(method)) {
                recursive++;
                fault(8, type, "recursion through " + method);
            }
        }
        if (recursive > 0) {
            return;
        }
        for (String method : calls.keySet()) {
            if (depth(method) > DEEPEST) {
                fault(10, type, "calls go " + depth(method) + " deep from " + method);
            }
        }
    }

    private static void read(Path file) throws IOException {
        JavaCompiler compiler = ToolProvider.getSystemJavaCompiler();
        try (StandardJavaFileManager files = compiler.getStandardFileManager(null, null, null)) {
            JavacTask task = (JavacTask) compiler.getTask(null, files, null, null, null, files.getJavaFileObjects(file));
            unit = task.parse().iterator().next();
            positions = Trees.instance(task).getSourcePositions();
        }
    }

    public static void main(String[] args) throws IOException {
        read(Path.of(args.length == 0 ? "src/main/java/StableModels.java" : args[0]));
        if (unit.getPackageName() != null || !unit.getImports().isEmpty() || unit.getTypeDecls().size() != 1) {
            fault(1, unit, "the file has a package, an import, or not one class");
        }
        ClassTree type = (ClassTree) unit.getTypeDecls().get(0);
        if (type.getExtendsClause() != null || !type.getImplementsClause().isEmpty()) {
            fault(3, type, "the class extends or implements another");
        }
        new Words().scan(type, null);
        members(type);
        callGraph(type);
        System.out.println(wrong == 0 ? "the source is as due" : wrong + " faults");
        if (wrong != 0) {
            System.exit(1);
        }
    }
}
