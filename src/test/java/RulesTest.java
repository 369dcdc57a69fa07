import com.sun.source.tree.AssignmentTree;
import com.sun.source.tree.BinaryTree;
import com.sun.source.tree.BlockTree;
import com.sun.source.tree.ClassTree;
import com.sun.source.tree.CompilationUnitTree;
import com.sun.source.tree.CompoundAssignmentTree;
import com.sun.source.tree.ExpressionTree;
import com.sun.source.tree.ForLoopTree;
import com.sun.source.tree.IdentifierTree;
import com.sun.source.tree.MethodInvocationTree;
import com.sun.source.tree.MethodTree;
import com.sun.source.tree.NewArrayTree;
import com.sun.source.tree.NewClassTree;
import com.sun.source.tree.ParenthesizedTree;
import com.sun.source.tree.StatementTree;
import com.sun.source.tree.Tree;
import com.sun.source.tree.TypeCastTree;
import com.sun.source.tree.UnaryTree;
import com.sun.source.tree.VariableTree;
import com.sun.source.tree.WhileLoopTree;
import com.sun.source.util.JavacTask;
import com.sun.source.util.TreePath;
import com.sun.source.util.TreePathScanner;
import com.sun.source.util.Trees;
import java.nio.file.Path;
import java.util.ArrayList;
import java.util.EnumSet;
import java.util.HashSet;
import java.util.List;
import java.util.Map;
import java.util.Set;
import java.util.TreeMap;
import javax.lang.model.element.Element;
import javax.lang.model.element.ElementKind;
import javax.lang.model.element.Modifier;
import javax.lang.model.type.TypeMirror;
import javax.tools.JavaCompiler;
import javax.tools.StandardJavaFileManager;
import javax.tools.ToolProvider;

/**
 * Rules of LANGUAGE.md that the compiler's trees show: what of the library is called (4), no static
 * state (5), no forbidden statement (6), divisors (7), no recursion (8), the ends of loops (9), no
 * texts joined by + (10), how deep calls go and how long methods are (11), where objects are made (12).
 */
public final class RulesTest extends TreePathScanner<Void, Void> {
    private static final Path PROGRAM = Path.of("src/main/java/HouseInRoom.java");
    private static final int MOST_DEPTH = 8;
    private static final int MOST_LINES = 60;
    private static final Set<String> LIBRARY = Set.of("java.util.Arrays.fill",
            "java.lang.System.arraycopy", "java.lang.Math.min", "java.lang.String.length",
            "java.lang.String.charAt");
    private static final Set<Tree.Kind> FORBIDDEN = EnumSet.of(Tree.Kind.THROW, Tree.Kind.TRY,
            Tree.Kind.CATCH, Tree.Kind.SYNCHRONIZED, Tree.Kind.ASSERT, Tree.Kind.LAMBDA_EXPRESSION,
            Tree.Kind.MEMBER_REFERENCE, Tree.Kind.SWITCH_EXPRESSION, Tree.Kind.ANNOTATION,
            Tree.Kind.INTERFACE, Tree.Kind.ENUM, Tree.Kind.RECORD, Tree.Kind.INSTANCE_OF);
    /** The only divisors that are no constants: h is 1 to 9, things is looked at ahead of it. */
    private static final Set<String> DIVISORS = Set.of("h", "things");

    private final CompilationUnitTree unit;
    private final Trees trees;
    private final Map<String, Set<String>> calls = new TreeMap<>();
    private final List<String> wrongs = new ArrayList<>();
    private MethodTree method;
    private String name = "";

    private RulesTest(CompilationUnitTree unit, Trees trees) {
        this.unit = unit;
        this.trees = trees;
    }

    public static void main(String[] args) throws Exception {
        JavaCompiler compiler = ToolProvider.getSystemJavaCompiler();
        StandardJavaFileManager files = compiler.getStandardFileManager(null, null, null);
        JavacTask task = (JavacTask) compiler.getTask(null, files, null, List.of("-proc:none"), null,
                files.getJavaFileObjects(PROGRAM));
        CompilationUnitTree unit = task.parse().iterator().next();
        task.analyze();
        RulesTest test = new RulesTest(unit, Trees.instance(task));
        test.scan(new TreePath(unit), null);
        test.require(test.calls.size() > 50, unit, "so few methods were seen");
        for (String from : test.calls.keySet()) {
            test.depth(from, new ArrayList<>());
        }
        test.wrongs.forEach(System.out::println);
        System.out.println(test.wrongs.isEmpty() ? "RulesTest: all rules are kept"
                : test.wrongs.size() + " wrong");
        if (!test.wrongs.isEmpty()) {
            System.exit(1);
        }
    }

    private void require(boolean holds, Tree at, String what) {
        if (!holds) {
            long place = trees.getSourcePositions().getStartPosition(unit, at);
            wrongs.add("line " + unit.getLineMap().getLineNumber(Math.max(0, place)) + ": " + what);
        }
    }

    private Element elementOf(Tree tree) {
        return trees.getElement(new TreePath(getCurrentPath(), tree));
    }

    private boolean isField(Tree tree) {
        Element e = elementOf(tree);
        return e != null && e.getKind() == ElementKind.FIELD
                && !e.getModifiers().contains(Modifier.STATIC);
    }

    private boolean isNumber(Tree tree) {
        TypeMirror type = trees.getTypeMirror(new TreePath(getCurrentPath(), tree));
        return type != null && type.getKind().isPrimitive();
    }

    /** Whether what is scanned is done while an object is made. */
    private boolean isMaking() {
        return method == null || method.getName().contentEquals("<init>");
    }

    @Override
    public Void scan(Tree tree, Void p) {
        if (tree != null) {
            require(!FORBIDDEN.contains(tree.getKind()), tree, "rules 2 and 6: " + tree.getKind());
        }
        return super.scan(tree, p);
    }

    @Override
    public Void visitClass(ClassTree tree, Void p) {
        MethodTree outside = method;
        method = null;
        super.visitClass(tree, p);
        method = outside;
        return null;
    }

    @Override
    public Void visitBlock(BlockTree tree, Void p) {
        require(!tree.isStatic(), tree, "rule 5: a static initialiser");
        return super.visitBlock(tree, p);
    }

    @Override
    public Void visitMethod(MethodTree tree, Void p) {
        method = tree;
        Element e = trees.getElement(getCurrentPath());
        name = e.getEnclosingElement() + "." + e;
        calls.put(name, new HashSet<>());
        long begin = trees.getSourcePositions().getStartPosition(unit, tree);
        long end = trees.getSourcePositions().getEndPosition(unit, tree);
        if (end >= 0) {
            long lines = unit.getLineMap().getLineNumber(end) - unit.getLineMap().getLineNumber(begin);
            require(lines < MOST_LINES, tree, "rule 11: " + name + " has " + (lines + 1) + " lines");
        }
        super.visitMethod(tree, p);
        method = null;
        return null;
    }

    @Override
    public Void visitMethodInvocation(MethodInvocationTree tree, Void p) {
        Element e = elementOf(tree.getMethodSelect());
        String owner = e.getEnclosingElement().toString();
        if (!e.getSimpleName().contentEquals("<init>")) {
            if (owner.startsWith("java")) {
                require(LIBRARY.contains(owner + "." + e.getSimpleName()), tree, "rule 4: " + tree);
            } else {
                require(!isMaking(), tree, "rule 12: " + tree + " while an object is made");
            }
            if (method != null) {
                calls.get(name).add(owner + "." + e);
            }
        }
        requireOwn(tree.getArguments());
        return super.visitMethodInvocation(tree, p);
    }

    @Override
    public Void visitNewClass(NewClassTree tree, Void p) {
        require(isMaking(), tree, "more than rule 12: a call makes " + tree);
        requireOwn(tree.getArguments());
        return super.visitNewClass(tree, p);
    }

    @Override
    public Void visitNewArray(NewArrayTree tree, Void p) {
        require(isMaking(), tree, "more than rule 12: a call makes " + tree);
        return super.visitNewArray(tree, p);
    }

    /** While an object is made, nothing of it goes anywhere else. */
    private void requireOwn(List<? extends ExpressionTree> arguments) {
        for (ExpressionTree argument : arguments) {
            boolean isOwn = argument.toString().equals("this") || isField(argument);
            require(!isMaking() || !isOwn, argument, "rule 12: a constructor hands out " + argument);
        }
    }

    @Override
    public Void visitBinary(BinaryTree tree, Void p) {
        ExpressionTree right = tree.getRightOperand();
        boolean isDivision = tree.getKind() == Tree.Kind.DIVIDE
                || tree.getKind() == Tree.Kind.REMAINDER;
        require(isNumber(tree.getLeftOperand()) && isNumber(right), tree,
                "rules 6 and 10: " + tree + " is not of numbers");
        require(!isDivision || right.toString().matches("[A-Z_]+|\\d+")
                || DIVISORS.contains(right.toString()), tree, "rule 7: " + tree);
        return super.visitBinary(tree, p);
    }

    @Override
    public Void visitCompoundAssignment(CompoundAssignmentTree tree, Void p) {
        boolean isDivision = tree.getKind() == Tree.Kind.DIVIDE_ASSIGNMENT
                || tree.getKind() == Tree.Kind.REMAINDER_ASSIGNMENT;
        require(!isDivision && isNumber(tree.getVariable()), tree, "rules 7 and 10: " + tree);
        return super.visitCompoundAssignment(tree, p);
    }

    @Override
    public Void visitTypeCast(TypeCastTree tree, Void p) {
        require(isNumber(tree.getType()) && isNumber(tree.getExpression()), tree, "rule 6: " + tree);
        return super.visitTypeCast(tree, p);
    }

    @Override
    public Void visitForLoop(ForLoopTree tree, Void p) {
        boolean isCounted = false;
        if (tree.getInitializer().size() == 1 && tree.getUpdate().size() == 1
                && tree.getInitializer().get(0) instanceof VariableTree counter) {
            String i = counter.getName().toString();
            String update = tree.getUpdate().get(0).toString();
            isCounted = (update.equals(i + "++;") && hasBound(tree.getCondition(), i, "<")
                    || update.equals(i + "--;") && hasBound(tree.getCondition(), i, ">"))
                    && !isChangedIn(tree.getStatement(), i);
        }
        require(isCounted, tree, "rule 9: a loop without a counter: " + tree.getCondition());
        return super.visitForLoop(tree, p);
    }

    @Override
    public Void visitWhileLoop(WhileLoopTree tree, Void p) {
        boolean isCounted = false;
        if (tree.getStatement() instanceof BlockTree block && block.getStatements().size() == 1) {
            StatementTree only = block.getStatements().get(0);
            String i = only.toString().replace("++;", "");
            isCounted = only.toString().endsWith("++;") && hasBound(tree.getCondition(), i, "<");
        }
        require(isCounted, tree, "rule 9: a loop without a counter: " + tree.getCondition());
        return super.visitWhileLoop(tree, p);
    }

    /** Whether a condition, or a part that must hold with all others, keeps a counter in a bound. */
    private static boolean hasBound(ExpressionTree condition, String counter, String sign) {
        ExpressionTree plain = condition;
        while (plain instanceof ParenthesizedTree inner) {
            plain = inner.getExpression();
        }
        if (!(plain instanceof BinaryTree pair)) {
            return false;
        }
        if (pair.getKind() == Tree.Kind.CONDITIONAL_AND) {
            return hasBound(pair.getLeftOperand(), counter, sign)
                    || hasBound(pair.getRightOperand(), counter, sign);
        }
        return plain.toString().startsWith(counter + " " + sign);
    }

    private static boolean isChangedIn(StatementTree body, String counter) {
        boolean[] isChanged = {false};
        new com.sun.source.util.TreeScanner<Void, Void>() {
            @Override
            public Void visitAssignment(AssignmentTree tree, Void p) {
                note(tree.getVariable());
                return super.visitAssignment(tree, p);
            }

            @Override
            public Void visitCompoundAssignment(CompoundAssignmentTree tree, Void p) {
                note(tree.getVariable());
                return super.visitCompoundAssignment(tree, p);
            }

            @Override
            public Void visitUnary(UnaryTree tree, Void p) {
                if (tree.getKind().toString().contains("CREMENT")) {
                    note(tree.getExpression());
                }
                return super.visitUnary(tree, p);
            }

            private void note(ExpressionTree variable) {
                isChanged[0] |= variable instanceof IdentifierTree
                        && variable.toString().equals(counter);
            }
        }.scan(body, null);
        return isChanged[0];
    }

    /** How many calls stand open at most from a method on, it and those of the library counted, too. */
    private int depth(String from, List<String> open) {
        if (open.contains(from)) {
            wrongs.add("rule 8: " + from + " comes to itself: " + open);
            return 0;
        }
        open.add(from);
        int deepest = 0;
        for (String to : calls.getOrDefault(from, Set.of())) {
            deepest = Math.max(deepest, depth(to, open));
        }
        open.remove(open.size() - 1);
        if (open.isEmpty() && deepest + 1 > MOST_DEPTH) {
            wrongs.add("rule 11: " + from + " goes " + (deepest + 1) + " deep");
        }
        return deepest + 1;
    }
}
