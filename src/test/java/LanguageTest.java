import com.sun.source.tree.AssignmentTree;
import com.sun.source.tree.BinaryTree;
import com.sun.source.tree.BlockTree;
import com.sun.source.tree.ClassTree;
import com.sun.source.tree.CompilationUnitTree;
import com.sun.source.tree.CompoundAssignmentTree;
import com.sun.source.tree.ExpressionTree;
import com.sun.source.tree.ForLoopTree;
import com.sun.source.tree.IdentifierTree;
import com.sun.source.tree.LineMap;
import com.sun.source.tree.MethodInvocationTree;
import com.sun.source.tree.MethodTree;
import com.sun.source.tree.NewArrayTree;
import com.sun.source.tree.ParenthesizedTree;
import com.sun.source.tree.PrimitiveTypeTree;
import com.sun.source.tree.Tree;
import com.sun.source.tree.UnaryTree;
import com.sun.source.tree.VariableTree;
import com.sun.source.util.JavacTask;
import com.sun.source.util.SourcePositions;
import com.sun.source.util.TreeScanner;
import com.sun.source.util.Trees;
import java.nio.file.Path;
import java.util.ArrayDeque;
import java.util.Deque;
import java.util.EnumSet;
import java.util.HashMap;
import java.util.HashSet;
import java.util.Map;
import java.util.Set;
import java.util.TreeMap;
import java.util.TreeSet;
import javax.lang.model.element.Modifier;
import javax.lang.model.type.TypeKind;
import javax.tools.JavaCompiler;
import javax.tools.StandardJavaFileManager;
import javax.tools.ToolProvider;

/**
 * The rules of LANGUAGE.md that can be told from the parsed source. It is stricter than they are: only `for` loops that
 * count a variable against a bound, only calls of the class's own methods by their plain names, arrays only in the
 * fields' initialisers.
 */
public final class LanguageTest {
    private static final int GREATEST_DEPTH = 6;
    private static final int GREATEST_LENGTH = 60;
    private static final int GREATEST_FIELDS = 40;
    private static final int GREATEST_PARAMETERS = 7;
    private static final Set<Tree.Kind> RULED_OUT = EnumSet.of(
        Tree.Kind.NULL_LITERAL, Tree.Kind.STRING_LITERAL, Tree.Kind.FLOAT_LITERAL, Tree.Kind.DOUBLE_LITERAL,
        Tree.Kind.NEW_CLASS, Tree.Kind.MEMBER_SELECT, Tree.Kind.MEMBER_REFERENCE, Tree.Kind.LAMBDA_EXPRESSION,
        Tree.Kind.THROW, Tree.Kind.TRY, Tree.Kind.CATCH, Tree.Kind.SYNCHRONIZED, Tree.Kind.ASSERT,
        Tree.Kind.INSTANCE_OF, Tree.Kind.WHILE_LOOP, Tree.Kind.DO_WHILE_LOOP, Tree.Kind.ENHANCED_FOR_LOOP,
        Tree.Kind.ENUM, Tree.Kind.INTERFACE, Tree.Kind.RECORD, Tree.Kind.ANNOTATION_TYPE, Tree.Kind.ANNOTATION,
        Tree.Kind.PARAMETERIZED_TYPE, Tree.Kind.TYPE_PARAMETER);
    private static final Set<TypeKind> NUMBER_TYPES = EnumSet.of(
        TypeKind.INT, TypeKind.LONG, TypeKind.SHORT, TypeKind.BYTE, TypeKind.CHAR, TypeKind.BOOLEAN);

    private static final Map<String, Set<String>> callsOf = new TreeMap<>();
    private static final Set<String> arrayFields = new HashSet<>();
    private static int wrong = 0;

    public static void main(String[] args) throws Exception {
        String source = args.length > 0 ? args[0] : "src/main/java/PolicySolver.java";
        JavaCompiler compiler = ToolProvider.getSystemJavaCompiler();
        try (StandardJavaFileManager files = compiler.getStandardFileManager(null, null, null)) {
            JavacTask task = (JavacTask) compiler.getTask(null, files, null, null, null, files.getJavaFileObjects(Path.of(source)));
            SourcePositions places = Trees.instance(task).getSourcePositions();
            for (CompilationUnitTree unit : task.parse()) {
                unit(unit, places);
            }
        }
        callDepths();
        System.out.println(wrong == 0 ? "the source keeps to the rules" : wrong + " faults in the source");
        if (wrong != 0) {
            System.exit(1);
        }
    }

    private static void fault(boolean is, int rule, String what) {
        if (is) {
            wrong++;
            System.out.println("rule " + rule + ": " + what);
        }
    }

    private static void unit(CompilationUnitTree unit, SourcePositions places) {
        fault(unit.getPackageName() != null, 1, "there is a package line");
        fault(!unit.getImports().isEmpty(), 3, "something is imported");
        fault(unit.getTypeDecls().size() != 1, 1, "there is more than one class");
        ClassTree it = (ClassTree) unit.getTypeDecls().get(0);
        int held = 0;
        for (Tree member : it.getMembers()) {
            if (member instanceof VariableTree) {
                VariableTree field = (VariableTree) member;
                field(field);
                held += isStatic(field) ? 0 : 1;
            }
        }
        fault(held > GREATEST_FIELDS, 10, "there are " + held + " fields");
        for (Tree member : it.getMembers()) {
            if (member instanceof MethodTree) {
                method((MethodTree) member, unit, places);
            } else {
                fault(member instanceof ClassTree, 1, "there is a nested class");
                fault(member instanceof BlockTree, 5, "there is an initialiser block");
                member.accept(new Ruled("a field"), null);
            }
        }
    }

    private static boolean isStatic(VariableTree field) {
        return field.getModifiers().getFlags().contains(Modifier.STATIC);
    }

    private static void field(VariableTree field) {
        String name = field.getName().toString();
        Set<Modifier> flags = field.getModifiers().getFlags();
        boolean isArray = field.getType().getKind() == Tree.Kind.ARRAY_TYPE;
        fault(!flags.contains(Modifier.PRIVATE) && !name.equals("BAD"), 1, name + " is not private");
        fault(isStatic(field) && (isArray || !flags.contains(Modifier.FINAL)), 5, name + " is static but no constant");
        fault(isStatic(field) && !isConstant(field.getInitializer()), 5, name + " is not known when it is compiled");
        if (isArray) {
            arrayFields.add(name);
            ExpressionTree made = field.getInitializer();
            fault(!(made instanceof NewArrayTree), 4, name + " is not made in its initialiser");
        }
    }

    private static boolean isConstant(ExpressionTree value) {
        ExpressionTree inner = value instanceof UnaryTree ? ((UnaryTree) value).getExpression() : value;
        return inner != null && inner.getKind() == Tree.Kind.INT_LITERAL;
    }

    private static void method(MethodTree method, CompilationUnitTree unit, SourcePositions places) {
        String name = method.getName().toString();
        fault(callsOf.put(name, new TreeSet<>()) != null, 1, "two methods are named " + name);
        fault(method.getParameters().size() > GREATEST_PARAMETERS, 10, name + " takes too many parameters");
        Tree type = method.getReturnType();
        fault(type != null && type.getKind() == Tree.Kind.ARRAY_TYPE, 4, name + " answers an array");
        fault(!method.getThrows().isEmpty(), 6, name + " has a throws clause");
        LineMap lines = unit.getLineMap();
        long first = lines.getLineNumber(places.getStartPosition(unit, method));
        long last = lines.getLineNumber(places.getEndPosition(unit, method));
        fault(last - first + 1 > GREATEST_LENGTH, 10, name + " is " + (last - first + 1) + " lines long");
        method.accept(new Ruled(name), null);
    }

    private static void callDepths() {
        Map<String, Integer> depths = new HashMap<>();
        for (String name : callsOf.keySet()) {
            int depth = depth(name, new ArrayDeque<>(), depths);
            fault(depth > GREATEST_DEPTH, 10, "calls go " + depth + " deep from " + name);
        }
    }

    private static int depth(String name, Deque<String> above, Map<String, Integer> known) {
        if (known.containsKey(name)) {
            return known.get(name);
        }
        if (above.contains(name)) {
            fault(true, 8, name + " calls itself, through " + above);
            return 0;
        }
        fault(!callsOf.containsKey(name), 3, name + " is not a method of the class");
        above.push(name);
        int deepest = 0;
        for (String called : callsOf.getOrDefault(name, Set.of())) {
            deepest = Math.max(deepest, depth(called, above, known));
        }
        above.pop();
        known.put(name, deepest + 1);
        return deepest + 1;
    }

    /** Looks through one member of the class. */
    private static final class Ruled extends TreeScanner<Void, Void> {
        private final String where;
        private boolean inArguments = false;

        Ruled(String where) {
            this.where = where;
        }

        @Override
        public Void scan(Tree tree, Void none) {
            if (tree != null) {
                fault(RULED_OUT.contains(tree.getKind()), ruleOf(tree.getKind()), tree.getKind() + " in " + where);
            }
            return super.scan(tree, none);
        }

        private static int ruleOf(Tree.Kind kind) {
            return switch (kind) {
                case ENUM, INTERFACE, RECORD, ANNOTATION_TYPE -> 1;
                case STRING_LITERAL, FLOAT_LITERAL, DOUBLE_LITERAL, NEW_CLASS, PARAMETERIZED_TYPE, TYPE_PARAMETER -> 2;
                case MEMBER_SELECT, ANNOTATION -> 3;
                case NULL_LITERAL -> 4;
                case WHILE_LOOP, DO_WHILE_LOOP, ENHANCED_FOR_LOOP -> 8;
                default -> 6;
            };
        }

        @Override
        public Void visitPrimitiveType(PrimitiveTypeTree type, Void none) {
            TypeKind kind = type.getPrimitiveTypeKind();
            fault(kind != TypeKind.VOID && !NUMBER_TYPES.contains(kind), 2, type + " in " + where);
            return super.visitPrimitiveType(type, none);
        }

        @Override
        public Void visitVariable(VariableTree variable, Void none) {
            String shape = String.valueOf(variable.getType());
            fault(!shape.matches("(int|long|short|byte|char|boolean)(\\[\\])?"), 2, variable + " in " + where);
            return super.visitVariable(variable, none);
        }

        @Override
        public Void visitNewArray(NewArrayTree made, Void none) {
            fault(!where.equals("a field"), 4, "an array is made in " + where);
            fault(made.getDimensions().size() != 1 || made.getInitializers() != null, 4, made + " in " + where);
            for (ExpressionTree length : made.getDimensions()) {
                boolean plain = length.getKind() == Tree.Kind.INT_LITERAL || length instanceof IdentifierTree;
                fault(!plain, 4, "the length of " + made + " is no constant");
            }
            return super.visitNewArray(made, none);
        }

        @Override
        public Void visitAssignment(AssignmentTree assigned, Void none) {
            fault(arrayFields.contains(assigned.getVariable().toString()), 4, assigned + " in " + where);
            return super.visitAssignment(assigned, none);
        }

        @Override
        public Void visitMethodInvocation(MethodInvocationTree call, Void none) {
            String name = call.getMethodSelect().toString();
            callsOf.computeIfAbsent(where, any -> new TreeSet<>()).add(name);
            fault(inArguments, 10, name + " is called inside the arguments of a call in " + where);
            boolean outside = inArguments;
            inArguments = true;
            scan(call.getArguments(), none);
            inArguments = outside;
            return null;
        }

        @Override
        public Void visitForLoop(ForLoopTree loop, Void none) {
            boolean counts = loop.getInitializer().size() == 1 && loop.getUpdate().size() == 1
                && loop.getInitializer().get(0) instanceof VariableTree;
            fault(!counts, 8, "a loop without a counter in " + where);
            if (counts) {
                counted(loop, ((VariableTree) loop.getInitializer().get(0)).getName().toString());
            }
            return super.visitForLoop(loop, none);
        }

        private void counted(ForLoopTree loop, String counter) {
            String update = loop.getUpdate().get(0).toString().replace(";", "");
            String bound = update.equals(counter + "++") ? counter + " < " : counter + " >= ";
            fault(!update.equals(counter + "++") && !update.equals(counter + "--"), 8, update + " in " + where);
            fault(!String.valueOf(firstPart(loop.getCondition())).startsWith(bound), 8,
                "the loop of " + counter + " in " + where + " has no bound that can be seen");
            loop.getStatement().accept(new Untouched(counter, where), null);
        }

        private static ExpressionTree firstPart(ExpressionTree condition) {
            ExpressionTree part = condition;
            while (part instanceof ParenthesizedTree || part != null && part.getKind() == Tree.Kind.CONDITIONAL_AND) {
                part = part instanceof ParenthesizedTree
                    ? ((ParenthesizedTree) part).getExpression() : ((BinaryTree) part).getLeftOperand();
            }
            return part;
        }
    }

    /** A loop's counter is not set inside the loop. */
    private static final class Untouched extends TreeScanner<Void, Void> {
        private final String counter;
        private final String where;

        Untouched(String counter, String where) {
            this.counter = counter;
            this.where = where;
        }

        @Override
        public Void visitAssignment(AssignmentTree assigned, Void none) {
            fault(assigned.getVariable().toString().equals(counter), 8, counter + " is set inside its loop in " + where);
            return super.visitAssignment(assigned, none);
        }

        @Override
        public Void visitCompoundAssignment(CompoundAssignmentTree assigned, Void none) {
            fault(assigned.getVariable().toString().equals(counter), 8, counter + " is set inside its loop in " + where);
            return super.visitCompoundAssignment(assigned, none);
        }

        @Override
        public Void visitUnary(UnaryTree unary, Void none) {
            boolean steps = unary.toString().contains("++") || unary.toString().contains("--");
            fault(steps && unary.getExpression().toString().equals(counter), 8, counter + " is stepped inside its loop in " + where);
            return super.visitUnary(unary, none);
        }
    }
}
