import com.sun.source.tree.ArrayTypeTree;
import com.sun.source.tree.AssignmentTree;
import com.sun.source.tree.BinaryTree;
import com.sun.source.tree.ClassTree;
import com.sun.source.tree.CompilationUnitTree;
import com.sun.source.tree.CompoundAssignmentTree;
import com.sun.source.tree.ExpressionTree;
import com.sun.source.tree.ForLoopTree;
import com.sun.source.tree.IdentifierTree;
import com.sun.source.tree.MethodInvocationTree;
import com.sun.source.tree.MethodTree;
import com.sun.source.tree.NewArrayTree;
import com.sun.source.tree.PrimitiveTypeTree;
import com.sun.source.tree.Tree;
import com.sun.source.tree.Tree.Kind;
import com.sun.source.tree.UnaryTree;
import com.sun.source.tree.VariableTree;
import com.sun.source.util.JavacTask;
import com.sun.source.util.SourcePositions;
import com.sun.source.util.TreeScanner;
import com.sun.source.util.Trees;
import java.io.IOException;
import java.nio.file.Path;
import java.util.EnumSet;
import java.util.HashSet;
import java.util.List;
import java.util.Map;
import java.util.Set;
import java.util.TreeMap;
import java.util.TreeSet;
import javax.lang.model.element.Modifier;
import javax.lang.model.type.TypeKind;
import javax.tools.JavaCompiler;
import javax.tools.StandardJavaFileManager;
import javax.tools.ToolProvider;

/**
 * LANGUAGE.md, as far as the source's form tells: each rule with the things in the source that break it, of which none
 * is due. Where it was plainer, the test asks for more than the rule: no while, no dot, arrays in fields' initialisers.
 */
public final class LanguageTest {
    private static final Set<TypeKind> TYPES =
        EnumSet.of(TypeKind.INT, TypeKind.LONG, TypeKind.SHORT, TypeKind.BYTE, TypeKind.CHAR, TypeKind.BOOLEAN, TypeKind.VOID);
    private static final Set<Kind> RULE_2 = EnumSet.of(Kind.FLOAT_LITERAL, Kind.DOUBLE_LITERAL, Kind.STRING_LITERAL, Kind.PARAMETERIZED_TYPE);
    private static final Set<Kind> RULE_4 = EnumSet.of(Kind.NEW_CLASS, Kind.NULL_LITERAL);
    private static final Set<Kind> RULE_6 = EnumSet.of(Kind.THROW, Kind.TRY, Kind.CATCH, Kind.SYNCHRONIZED, Kind.ASSERT,
        Kind.INSTANCE_OF, Kind.LAMBDA_EXPRESSION, Kind.MEMBER_REFERENCE);
    private static final Set<Kind> RULE_8 = EnumSet.of(Kind.WHILE_LOOP, Kind.DO_WHILE_LOOP, Kind.ENHANCED_FOR_LOOP);
    private static final int MOST_PARAMETERS = 7, MOST_LINES = 60, MOST_DEEP = 6, MOST_FIELDS = 40;

    private final CompilationUnitTree unit;
    private final SourcePositions positions;
    private final Map<String, Set<String>> callees = new TreeMap<>();
    private final Set<Tree> arraysOfFields = new HashSet<>();

    private LanguageTest(CompilationUnitTree unit, SourcePositions positions) {
        this.unit = unit;
        this.positions = positions;
    }

    public static void main(String[] args) throws IOException {
        JavaCompiler compiler = ToolProvider.getSystemJavaCompiler();
        try (StandardJavaFileManager files = compiler.getStandardFileManager(null, null, null)) {
            JavacTask task = (JavacTask) compiler.getTask(null, files, null, null, null,
                files.getJavaFileObjects(Path.of("src/main/java/PluginHost.java")));
            CompilationUnitTree unit = task.parse().iterator().next();
            new LanguageTest(unit, Trees.instance(task).getSourcePositions()).checkUnit();
        }
        Check.end();
    }

    private long line(Tree tree) {
        return unit.getLineMap().getLineNumber(positions.getStartPosition(unit, tree));
    }

    private void breaks(int rule, Tree tree, String why) {
        Check.due("rule " + rule + ", line " + line(tree) + ": " + why + ", times", 1, 0);
    }

    private void checkUnit() {
        Check.due("rule 1: there is a package line", unit.getPackageName() != null, false);
        Check.due("rule 3: imports", unit.getImports().size(), 0);
        Check.due("rule 1: classes", unit.getTypeDecls().size(), 1);
        ClassTree host = (ClassTree) unit.getTypeDecls().get(0);
        Check.due("rule 1: the class extends or implements", host.getExtendsClause() != null || !host.getImplementsClause().isEmpty(), false);
        int fields = 0;
        for (Tree member : host.getMembers()) {
            if (member instanceof VariableTree) {
                fields += checkField((VariableTree) member);
            } else if (member instanceof MethodTree) {
                checkMethod((MethodTree) member);
            } else {
                breaks(1, member, "neither a field nor a method");
            }
        }
        Check.due("rule 10: the " + fields + " fields are at most some forty", fields <= MOST_FIELDS, true);
        new Forms().scan(host.getMembers(), null);
        checkDepth();
    }

    /** Answers 1 for a field that is no constant. */
    private int checkField(VariableTree field) {
        Set<Modifier> flags = field.getModifiers().getFlags();
        Kind type = field.getType().getKind();
        if (flags.contains(Modifier.STATIC)) {
            String name = field.getType().toString();
            if (!flags.contains(Modifier.FINAL) || !name.equals("int") && !name.equals("long") || field.getInitializer() == null) {
                breaks(5, field, "a static field that is no constant of int or long");
            }
            return 0;
        }
        if (!flags.contains(Modifier.PRIVATE)) {
            breaks(1, field, "a field that is not private");
        }
        if (type == Kind.ARRAY_TYPE) {
            if (!flags.contains(Modifier.FINAL)) {
                breaks(4, field, "an array field that could be assigned to");
            }
            arraysOfFields.add(field.getInitializer());
        }
        return 1;
    }

    private void checkMethod(MethodTree method) {
        String name = method.getName().toString();
        if (callees.put(name, new TreeSet<>()) != null) {
            breaks(1, method, "two methods have the name " + name);
        }
        if (method.getParameters().size() > MOST_PARAMETERS) {
            breaks(10, method, "too many parameters");
        }
        long lines = unit.getLineMap().getLineNumber(positions.getEndPosition(unit, method)) - line(method) + 1;
        if (lines > MOST_LINES) {
            breaks(10, method, lines + " lines");
        }
        if (method.getReturnType() != null && method.getReturnType().getKind() == Kind.ARRAY_TYPE) {
            breaks(4, method, "answers an array");
        }
        new Calls(callees.get(name)).scan(method.getBody(), null);
    }

    private void checkDepth() {
        Map<String, Integer> depths = new TreeMap<>();
        // Without recursion every depth is known after as many rounds as there are methods.
        for (int round = 0; round < callees.size(); round++) {
            callees.forEach((name, called) -> {
                if (depths.keySet().containsAll(called)) {
                    depths.put(name, 1 + called.stream().mapToInt(depths::get).max().orElse(0));
                }
            });
        }
        Set<String> endless = new TreeSet<>(callees.keySet());
        endless.removeAll(depths.keySet());
        Check.due("rule 8: methods that call themselves, or methods not of the class " + endless, endless.size(), 0);
        depths.forEach((name, depth) -> Check.due("rule 10: " + name + " goes " + depth + " deep, at most six", depth <= MOST_DEEP, true));
    }

    /** The names of the methods that are called, and calls inside the arguments of a call. */
    private final class Calls extends TreeScanner<Void, Void> {
        private final Set<String> called;
        private boolean inArguments = false;

        Calls(Set<String> called) {
            this.called = called;
        }

        @Override
        public Void visitMethodInvocation(MethodInvocationTree call, Void none) {
            if (inArguments) {
                breaks(10, call, "a call inside the arguments of another call");
            }
            String name = call.getMethodSelect().toString();
            if (!name.equals("super")) {
                called.add(name);
            }
            inArguments = true;
            scan(call.getArguments(), none);
            inArguments = false;
            return null;
        }
    }

    /** The forms that a rule leaves out. */
    private final class Forms extends TreeScanner<Void, Void> {
        @Override
        public Void scan(Tree tree, Void none) {
            if (tree != null) {
                forbid(2, RULE_2, tree);
                forbid(4, RULE_4, tree);
                forbid(6, RULE_6, tree);
                forbid(8, RULE_8, tree);
                forbid(3, EnumSet.of(Kind.MEMBER_SELECT), tree);
            }
            return super.scan(tree, none);
        }

        private void forbid(int rule, Set<Kind> kinds, Tree tree) {
            if (kinds.contains(tree.getKind())) {
                breaks(rule, tree, tree.getKind().toString());
            }
        }

        @Override
        public Void visitClass(ClassTree nested, Void none) {
            breaks(1, nested, "a nested class");
            return null;
        }

        @Override
        public Void visitPrimitiveType(PrimitiveTypeTree type, Void none) {
            if (!TYPES.contains(type.getPrimitiveTypeKind())) {
                breaks(2, type, "the type " + type);
            }
            return null;
        }

        @Override
        public Void visitArrayType(ArrayTypeTree type, Void none) {
            if (type.getType().getKind() != Kind.PRIMITIVE_TYPE) {
                breaks(2, type, "the type " + type);
            }
            return super.visitArrayType(type, none);
        }

        @Override
        public Void visitVariable(VariableTree variable, Void none) {
            Kind type = variable.getType() == null ? Kind.OTHER : variable.getType().getKind();
            if (type != Kind.PRIMITIVE_TYPE && type != Kind.ARRAY_TYPE) {
                breaks(2, variable, "the type of " + variable.getName());
            }
            return super.visitVariable(variable, none);
        }

        @Override
        public Void visitNewArray(NewArrayTree array, Void none) {
            List<? extends ExpressionTree> lengths = array.getDimensions();
            boolean plain = lengths.size() == 1 && (lengths.get(0).getKind() == Kind.INT_LITERAL || lengths.get(0).getKind() == Kind.IDENTIFIER);
            if (!plain || !arraysOfFields.contains(array)) {
                breaks(4, array, "an array that is not made in a field's initialiser with a constant length");
            }
            return super.visitNewArray(array, none);
        }

        @Override
        public Void visitForLoop(ForLoopTree loop, Void none) {
            boolean counts = loop.getInitializer().size() == 1 && loop.getUpdate().size() == 1
                && loop.getInitializer().get(0) instanceof VariableTree && loop.getCondition() != null;
            if (counts) {
                String counter = ((VariableTree) loop.getInitializer().get(0)).getName().toString();
                String update = loop.getUpdate().get(0).getExpression().toString();
                Bounds bounds = new Bounds(counter, update.equals(counter + "++"));
                bounds.ofAll(loop.getCondition());
                Changes changes = new Changes(counter);
                changes.scan(loop.getStatement(), null);
                counts = bounds.found && !changes.found && (update.equals(counter + "++") || update.equals(counter + "--"));
            }
            if (!counts) {
                breaks(8, loop, "a loop without a counter against a bound");
            }
            return super.visitForLoop(loop, none);
        }
    }

    /** Whether one of the conditions that && joins compares the counter with a bound that it runs towards. */
    private static final class Bounds {
        private final String counter;
        private final boolean up;
        private boolean found = false;

        Bounds(String counter, boolean up) {
            this.counter = counter;
            this.up = up;
        }

        void ofAll(ExpressionTree condition) {
            if (!(condition instanceof BinaryTree)) {
                return;
            }
            BinaryTree both = (BinaryTree) condition;
            if (both.getKind() == Kind.CONDITIONAL_AND) {
                ofAll(both.getLeftOperand());
                ofAll(both.getRightOperand());
            } else if (both.getLeftOperand().toString().equals(counter)) {
                Set<Kind> ends = up ? EnumSet.of(Kind.LESS_THAN, Kind.LESS_THAN_EQUAL)
                    : EnumSet.of(Kind.GREATER_THAN, Kind.GREATER_THAN_EQUAL);
                found = found || ends.contains(both.getKind());
            }
        }
    }

    /** Whether a variable is assigned to. */
    private static final class Changes extends TreeScanner<Void, Void> {
        private final String name;
        private boolean found = false;

        Changes(String name) {
            this.name = name;
        }

        private void changed(Tree variable) {
            found = found || variable instanceof IdentifierTree && variable.toString().equals(name);
        }

        @Override
        public Void visitAssignment(AssignmentTree assignment, Void none) {
            changed(assignment.getVariable());
            return super.visitAssignment(assignment, none);
        }

        @Override
        public Void visitCompoundAssignment(CompoundAssignmentTree assignment, Void none) {
            changed(assignment.getVariable());
            return super.visitCompoundAssignment(assignment, none);
        }

        @Override
        public Void visitUnary(UnaryTree unary, Void none) {
            if (!EnumSet.of(Kind.UNARY_MINUS, Kind.UNARY_PLUS, Kind.LOGICAL_COMPLEMENT, Kind.BITWISE_COMPLEMENT).contains(unary.getKind())) {
                changed(unary.getExpression());
            }
            return super.visitUnary(unary, none);
        }
    }
}
