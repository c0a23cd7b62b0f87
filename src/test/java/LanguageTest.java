import com.sun.source.tree.AssignmentTree;
import com.sun.source.tree.BinaryTree;
import com.sun.source.tree.BlockTree;
import com.sun.source.tree.ClassTree;
import com.sun.source.tree.CompilationUnitTree;
import com.sun.source.tree.CompoundAssignmentTree;
import com.sun.source.tree.ExpressionStatementTree;
import com.sun.source.tree.ExpressionTree;
import com.sun.source.tree.ForLoopTree;
import com.sun.source.tree.LineMap;
import com.sun.source.tree.MemberSelectTree;
import com.sun.source.tree.MethodInvocationTree;
import com.sun.source.tree.MethodTree;
import com.sun.source.tree.NewArrayTree;
import com.sun.source.tree.ParenthesizedTree;
import com.sun.source.tree.Tree;
import com.sun.source.tree.UnaryTree;
import com.sun.source.tree.VariableTree;
import com.sun.source.tree.WhileLoopTree;
import com.sun.source.util.JavacTask;
import com.sun.source.util.SourcePositions;
import com.sun.source.util.TreePath;
import com.sun.source.util.TreePathScanner;
import com.sun.source.util.TreeScanner;
import com.sun.source.util.Trees;
import java.io.IOException;
import java.nio.file.Path;
import java.util.List;
import java.util.Map;
import java.util.Set;
import java.util.TreeMap;
import java.util.TreeSet;
import java.util.stream.Collectors;
import javax.lang.model.element.Modifier;
import javax.lang.model.element.VariableElement;
import javax.lang.model.type.TypeKind;
import javax.tools.JavaCompiler;
import javax.tools.StandardJavaFileManager;
import javax.tools.ToolProvider;

/**
 * The source keeps to LANGUAGE.md, as the compiler reads it. Where a rule leaves room, as for the
 * loops, the form that the class has is asked for. FaceTest looks at the public face (rule 1).
 */
public final class LanguageTest {
    private static final Path SOURCE = Path.of("src/main/java/GenomeJoins.java");
    private static final int MOST_PARAMETERS = 7;
    private static final int MOST_LINES = 60;
    private static final int MOST_DEEP = 6;
    private static final int MOST_FIELDS = 40;

    private static final Set<String> TYPES = Set.of("int", "long", "short", "byte", "char", "boolean",
            "int[]", "long[]", "short[]", "byte[]", "char[]", "boolean[]");

    /** With the rule that each breaks. */
    private static final Map<Tree.Kind, Integer> RULED_OUT = Map.ofEntries(
            Map.entry(Tree.Kind.INTERFACE, 1), Map.entry(Tree.Kind.ENUM, 1), Map.entry(Tree.Kind.RECORD, 1),
            Map.entry(Tree.Kind.FLOAT_LITERAL, 2), Map.entry(Tree.Kind.DOUBLE_LITERAL, 2),
            Map.entry(Tree.Kind.STRING_LITERAL, 2), Map.entry(Tree.Kind.NEW_CLASS, 4),
            Map.entry(Tree.Kind.NULL_LITERAL, 4), Map.entry(Tree.Kind.THROW, 6), Map.entry(Tree.Kind.TRY, 6),
            Map.entry(Tree.Kind.SYNCHRONIZED, 6), Map.entry(Tree.Kind.ASSERT, 6),
            Map.entry(Tree.Kind.INSTANCE_OF, 6), Map.entry(Tree.Kind.LAMBDA_EXPRESSION, 6),
            Map.entry(Tree.Kind.MEMBER_REFERENCE, 6), Map.entry(Tree.Kind.TYPE_CAST, 6),
            Map.entry(Tree.Kind.DO_WHILE_LOOP, 8), Map.entry(Tree.Kind.ENHANCED_FOR_LOOP, 8));


    private static final Check CHECK = new Check();

    /** Which methods of the class each of its methods calls. */
    private static final Map<String, Set<String>> CALLS = new TreeMap<>();

    public static void main(String[] args) throws IOException {
        JavaCompiler compiler = ToolProvider.getSystemJavaCompiler();
        try (StandardJavaFileManager files = compiler.getStandardFileManager(null, null, null)) {
            JavacTask task = (JavacTask) compiler.getTask(null, files, null, List.of("--release", "17"), null,
                    files.getJavaFileObjects(SOURCE));
            CompilationUnitTree unit = task.parse().iterator().next();
            task.analyze();
            lookAt(unit, Trees.instance(task));
        }
        CHECK.end();
    }

    private static void lookAt(CompilationUnitTree unit, Trees trees) {
        CHECK.due("rule 1: package lines", unit.getPackageName() == null ? 0 : 1, 0);
        CHECK.due("rule 1: classes", unit.getTypeDecls().size(), 1);
        CHECK.due("rule 3: imports", unit.getImports().size(), 0);
        ClassTree type = (ClassTree) unit.getTypeDecls().get(0);
        for (Tree member : type.getMembers()) {
            CHECK.due("rule 5: an initialiser, " + member, member instanceof BlockTree, false);
            if (member instanceof MethodTree method) {
                CALLS.put(method.getName().toString(), new TreeSet<>());
            }
        }
        new Rules(unit, trees).scan(unit, null);
        long fields = type.getMembers().stream().filter(LanguageTest::isFieldOfTheObject).count();
        CHECK.due("rule 10: " + fields + " fields, are they too many", fields > MOST_FIELDS, false);
        for (String method : CALLS.keySet()) {
            CHECK.due("rules 8 and 10: calls of " + method + " go too deep", depth(method, 1) > MOST_DEEP, false);
        }
    }

    private static boolean isFieldOfTheObject(Tree member) {
        return member instanceof VariableTree field && !field.getModifiers().getFlags().contains(Modifier.STATIC);
    }

    /** Stops above the most, as a method that calls itself has no depth. */
    private static int depth(String method, int above) {
        int deepest = above;
        if (above <= MOST_DEEP) {
            for (String called : CALLS.get(method)) {
                deepest = Math.max(deepest, depth(called, above + 1));
            }
        }
        return deepest;
    }

    private static final class Rules extends TreePathScanner<Void, Void> {
        private final CompilationUnitTree unit;
        private final Trees trees;
        private final LineMap lines;

        Rules(CompilationUnitTree unit, Trees trees) {
            this.unit = unit;
            this.trees = trees;
            this.lines = unit.getLineMap();
        }

        @Override
        public Void scan(Tree tree, Void none) {
            if (tree != null) {
                Integer rule = RULED_OUT.get(tree.getKind());
                CHECK.due("rule " + rule + ": " + tree, rule != null, false);
            }
            return super.scan(tree, none);
        }

        @Override
        public Void visitClass(ClassTree type, Void none) {
            boolean nested = getCurrentPath().getParentPath().getLeaf() != unit;
            CHECK.due("rule 1: a nested " + type.getSimpleName(), nested, false);
            return super.visitClass(type, none);
        }

        @Override
        public Void visitVariable(VariableTree variable, Void none) {
            CHECK.due("rule 2: " + variable, TYPES.contains(variable.getType().toString()), true);
            if (variable.getModifiers().getFlags().contains(Modifier.STATIC)) {
                VariableElement field = (VariableElement) trees.getElement(getCurrentPath());
                boolean number = Set.of("int", "long").contains(variable.getType().toString());
                CHECK.due("rule 5: " + variable, number && field.getConstantValue() != null, true);
            }
            return super.visitVariable(variable, none);
        }

        @Override
        public Void visitMethod(MethodTree method, Void none) {
            if (method.getReturnType() != null) {
                String answer = method.getReturnType().toString();
                boolean fits = answer.equals("void") || TYPES.contains(answer) && !answer.endsWith("[]");
                CHECK.due("rules 2 and 4: " + method.getName() + " answers " + answer, fits, true);
            }
            boolean many = method.getParameters().size() > MOST_PARAMETERS;
            CHECK.due("rule 10: parameters of " + method.getName() + " are too many", many, false);
            CHECK.due("rule 10: " + method.getName() + " is too long", linesOf(method) > MOST_LINES, false);
            return super.visitMethod(method, none);
        }

        private long linesOf(Tree tree) {
            SourcePositions positions = trees.getSourcePositions();
            long first = lines.getLineNumber(positions.getStartPosition(unit, tree));
            return lines.getLineNumber(positions.getEndPosition(unit, tree)) - first + 1;
        }

        @Override
        public Void visitNewArray(NewArrayTree array, Void none) {
            TreePath field = getCurrentPath().getParentPath();
            boolean ofField = isFieldOfTheObject(field.getLeaf())
                    && field.getParentPath().getLeaf() instanceof ClassTree;
            CHECK.due("rule 4: " + array + " is made with a field", ofField, true);
            CHECK.due("rule 4: " + array + ", its lengths", array.getDimensions().size(), 1);
            return super.visitNewArray(array, none);
        }

        @Override
        public Void visitAssignment(AssignmentTree assignment, Void none) {
            TreePath variable = new TreePath(getCurrentPath(), assignment.getVariable());
            boolean array = trees.getTypeMirror(variable).getKind() == TypeKind.ARRAY;
            CHECK.due("rule 4: " + assignment, array, false);
            return super.visitAssignment(assignment, none);
        }

        @Override
        public Void visitMemberSelect(MemberSelectTree select, Void none) {
            CHECK.due("rule 3: " + select, select.getIdentifier().contentEquals("length"), true);
            return super.visitMemberSelect(select, none);
        }

        @Override
        public Void visitMethodInvocation(MethodInvocationTree call, Void none) {
            String called = call.getMethodSelect().toString();
            // The compiler itself puts this call into the constructor.
            if (!called.equals("super")) {
                CHECK.due("rule 3: " + call + " is of this class", CALLS.containsKey(called), true);
                callers().forEach(caller -> CALLS.get(caller).add(called));
            }
            Boolean inside = new CallFinder().scan(call.getArguments(), null);
            CHECK.due("rule 10: a call inside of " + call, inside != null, false);
            return super.visitMethodInvocation(call, none);
        }

        private Set<String> callers() {
            Set<String> callers = new TreeSet<>();
            for (Tree tree : getCurrentPath()) {
                if (tree instanceof MethodTree method) {
                    callers.add(method.getName().toString());
                }
            }
            return callers;
        }

        @Override
        public Void visitForLoop(ForLoopTree loop, Void none) {
            String counter = loop.getInitializer().stream()
                    .map(first -> first instanceof VariableTree variable ? variable.getName().toString() : "?")
                    .collect(Collectors.joining());
            List<String> updates = loop.getUpdate().stream().map(ExpressionStatementTree::getExpression)
                    .map(Rules::countedUp).collect(Collectors.toList());
            CHECK.due("rule 8: " + counter + " against a bound, " + loop.getCondition(),
                    counter.equals(boundedIn(loop.getCondition())), true);
            CHECK.due("rule 8: " + counter + " goes up, " + loop.getUpdate(), updates.equals(List.of(counter)), true);
            dueChanges(counter, loop.getStatement(), 0);
            return super.visitForLoop(loop, none);
        }

        @Override
        public Void visitWhileLoop(WhileLoopTree loop, Void none) {
            String counter = boundedIn(loop.getCondition());
            CHECK.due("rule 8: a counter against a bound, " + loop.getCondition(), counter.isEmpty(), false);
            CHECK.due("rule 8: " + counter + " goes up, " + loop.getStatement(),
                    loop.getStatement().toString().contains(counter + "++;"), true);
            dueChanges(counter, loop.getStatement(), 1);
            return super.visitWhileLoop(loop, none);
        }

        private static void dueChanges(String counter, Tree body, int due) {
            ChangeCounter changes = new ChangeCounter(counter);
            changes.scan(body, null);
            CHECK.due("rule 8: changes of " + counter + " in " + body, changes.found, due);
        }

        /** The counter that must be less than a bound for the condition to hold, or "". */
        private static String boundedIn(ExpressionTree condition) {
            if (condition instanceof ParenthesizedTree inner) {
                return boundedIn(inner.getExpression());
            }
            if (condition instanceof BinaryTree both && both.getKind() == Tree.Kind.CONDITIONAL_AND) {
                return boundedIn(both.getLeftOperand());
            }
            if (condition instanceof BinaryTree less && less.getKind() == Tree.Kind.LESS_THAN) {
                return less.getLeftOperand().toString();
            }
            return "";
        }

        private static String countedUp(ExpressionTree update) {
            boolean up = update.getKind() == Tree.Kind.POSTFIX_INCREMENT;
            return up ? ((UnaryTree) update).getExpression().toString() : "?";
        }
    }

    private static final class CallFinder extends TreeScanner<Boolean, Void> {
        @Override
        public Boolean visitMethodInvocation(MethodInvocationTree call, Void none) {
            return true;
        }

        @Override
        public Boolean reduce(Boolean one, Boolean other) {
            return one != null ? one : other;
        }
    }

    private static final class ChangeCounter extends TreeScanner<Void, Void> {
        private final String name;
        private int found = 0;

        ChangeCounter(String name) {
            this.name = name;
        }

        @Override
        public Void visitAssignment(AssignmentTree assignment, Void none) {
            count(assignment.getVariable());
            return super.visitAssignment(assignment, none);
        }

        @Override
        public Void visitCompoundAssignment(CompoundAssignmentTree assignment, Void none) {
            count(assignment.getVariable());
            return super.visitCompoundAssignment(assignment, none);
        }

        @Override
        public Void visitUnary(UnaryTree unary, Void none) {
            count(unary.getExpression());
            return super.visitUnary(unary, none);
        }

        private void count(ExpressionTree changed) {
            if (changed.toString().equals(name)) {
                found++;
            }
        }
    }
}
