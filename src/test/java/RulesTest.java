import com.sun.source.tree.BinaryTree;
import com.sun.source.tree.BlockTree;
import com.sun.source.tree.ClassTree;
import com.sun.source.tree.CompilationUnitTree;
import com.sun.source.tree.CompoundAssignmentTree;
import com.sun.source.tree.DoWhileLoopTree;
import com.sun.source.tree.ExpressionTree;
import com.sun.source.tree.ForLoopTree;
import com.sun.source.tree.IdentifierTree;
import com.sun.source.tree.LiteralTree;
import com.sun.source.tree.MemberSelectTree;
import com.sun.source.tree.MethodInvocationTree;
import com.sun.source.tree.MethodTree;
import com.sun.source.tree.NewClassTree;
import com.sun.source.tree.Tree;
import com.sun.source.tree.VariableTree;
import com.sun.source.tree.WhileLoopTree;
import com.sun.source.util.JavacTask;
import com.sun.source.util.TreePath;
import com.sun.source.util.TreePathScanner;
import com.sun.source.util.Trees;
import java.nio.file.Path;
import java.util.ArrayList;
import java.util.EnumSet;
import java.util.HashSet;
import java.util.List;
import java.util.Map;
import java.util.Set;
import java.util.TreeMap;
import java.util.regex.Pattern;
import javax.lang.model.element.Element;
import javax.lang.model.element.ElementKind;
import javax.lang.model.element.ExecutableElement;
import javax.lang.model.element.Modifier;
import javax.lang.model.element.NestingKind;
import javax.lang.model.element.TypeElement;
import javax.lang.model.type.TypeMirror;
import javax.tools.JavaCompiler;
import javax.tools.StandardJavaFileManager;
import javax.tools.ToolProvider;

/**
 * Those of the rules 2 to 12 of LANGUAGE.md that the compiler's trees of the program show: what is of
 * the library, of which types all is, and what stands there that may not.
 */
public final class RulesTest extends TreePathScanner<Void, Void> {
    private static final Path PROGRAM = Path.of("src/main/java/HouseInRoom.java");
    /** Calls below the public one. */
    private static final int MOST_DEPTH = 8;
    /** What LANGUAGE.md calls some sixty lines, some twelve classes, some twenty fields. */
    private static final int MOST_LINES = 66;
    private static final int MOST_CLASSES = 13;
    private static final int MOST_FIELDS = 22;
    private static final int MOST_PARAMETERS = 7;

    private static final Pattern LIBRARY = Pattern.compile(
            "String\\.(length|charAt|isEmpty|equals|indexOf|substring|toCharArray)\\(.*"
            + "|String\\(char\\[\\]\\)|StringBuilder\\(.*|ArrayList(<.*>)?\\(.*"
            + "|StringBuilder\\.append\\((char|int|java\\.lang\\.String)\\)"
            + "|StringBuilder\\.(charAt|setCharAt|setLength|deleteCharAt|reverse|length|toString)\\(.*"
            + "|(ArrayList|List)\\.(<E>)?(add|get|set|remove|size|isEmpty|clear|of)\\(.*"
            + "|(Integer|Long|Math)\\.\\w+(?<!Exact)\\(((int|long),?)*\\)"
            + "|System\\.arraycopy\\(.*|Arrays\\.(copyOf|copyOfRange|fill)\\(.*"
            + "|Array\\.clone\\(\\)|Iterator\\.(hasNext|next)\\(.*|Enum\\.(ordinal|values)\\(.*");
    private static final Pattern TYPE = Pattern.compile(
            "void|(int|long|short|byte|char|boolean|double|float)(\\[\\]){0,2}"
            + "|java\\.lang\\.(String|StringBuilder|Integer)"
            + "|java\\.util\\.(ArrayList|List|Iterator)<.*>|java\\.lang\\.(Iterable|Comparable)<.*>"
            + "|[A-Z]\\w*(\\[\\])?|HouseInRoom(\\.\\w+)?(<.*>)?(\\[\\])?");
    private static final Pattern CONSTANT =
            Pattern.compile("int|long|boolean|char|java\\.lang\\.String|(int|long|char|byte)\\[\\]");
    private static final Set<Tree.Kind> FORBIDDEN = EnumSet.of(Tree.Kind.THROW, Tree.Kind.TRY,
            Tree.Kind.CATCH, Tree.Kind.SYNCHRONIZED, Tree.Kind.ASSERT, Tree.Kind.LAMBDA_EXPRESSION,
            Tree.Kind.MEMBER_REFERENCE);

    private final CompilationUnitTree unit;
    private final Trees trees;
    private final Map<String, Set<String>> calls = new TreeMap<>();
    private final List<String> wrongs = new ArrayList<>();
    private int classes;
    /** The method that is looked at, or null in a class outside of all methods. */
    private MethodTree method;
    private String name = "";

    private RulesTest(CompilationUnitTree unit, Trees trees) {
        this.unit = unit;
        this.trees = trees;
    }

    public static void main(String[] args) throws Exception {
        JavaCompiler compiler = ToolProvider.getSystemJavaCompiler();
        StandardJavaFileManager files = compiler.getStandardFileManager(null, null, null);
        JavacTask task = (JavacTask) compiler.getTask(null, files, null, List.of("-proc:none"), null,
                files.getJavaFileObjects(PROGRAM));
        CompilationUnitTree unit = task.parse().iterator().next();
        task.analyze();
        RulesTest test = new RulesTest(unit, Trees.instance(task));
        test.scan(new TreePath(unit), null);
        test.require(test.classes <= MOST_CLASSES, unit, "rule 11: " + test.classes + " classes");
        for (String from : test.calls.keySet()) {
            test.depthBelow(from, new ArrayList<>());
        }
        test.wrongs.forEach(System.out::println);
        System.out.println(test.wrongs.isEmpty() ? "RulesTest: all rules are kept"
                : test.wrongs.size() + " wrong");
        if (!test.wrongs.isEmpty()) {
            System.exit(1);
        }
    }

    private void require(boolean holds, Tree at, String what) {
        if (!holds) {
            long place = trees.getSourcePositions().getStartPosition(unit, at);
            wrongs.add("line " + unit.getLineMap().getLineNumber(Math.max(0, place)) + ": " + what);
        }
    }

    private Element elementOf(Tree tree) {
        return trees.getElement(new TreePath(getCurrentPath(), tree));
    }

    private String typeOf(Tree tree) {
        TypeMirror type = trees.getTypeMirror(new TreePath(getCurrentPath(), tree));
        return type == null ? "" : type.toString();
    }

    private boolean isText(Tree tree) {
        return typeOf(tree).equals("java.lang.String");
    }

    @Override
    public Void scan(Tree tree, Void p) {
        if (tree != null) {
            require(!FORBIDDEN.contains(tree.getKind()), tree, "rules 2 and 6: " + tree.getKind());
        }
        return super.scan(tree, p);
    }

    @Override
    public Void visitClass(ClassTree tree, Void p) {
        classes++;
        TypeElement e = (TypeElement) trees.getElement(getCurrentPath());
        boolean isWhole = e.getNestingKind() == NestingKind.TOP_LEVEL;
        require(isWhole || e.getNestingKind() == NestingKind.MEMBER
                && e.getModifiers().contains(Modifier.STATIC), tree, "rule 2: " + e + " is not static");
        long fields = e.getEnclosedElements().stream().filter(f -> f.getKind() == ElementKind.FIELD
                && !f.getModifiers().contains(Modifier.STATIC)).count();
        require(fields <= MOST_FIELDS, tree, "rule 11: " + e + " has " + fields + " fields");
        MethodTree outside = method;
        method = null;
        super.visitClass(tree, p);
        method = outside;
        return null;
    }

    @Override
    public Void visitBlock(BlockTree tree, Void p) {
        require(!tree.isStatic(), tree, "rule 5: a static initialiser");
        return super.visitBlock(tree, p);
    }

    @Override
    public Void visitVariable(VariableTree tree, Void p) {
        Element e = trees.getElement(getCurrentPath());
        String type = e.asType().toString();
        require(TYPE.matcher(type).matches(), tree, "rule 3: " + tree);
        if (e.getKind() == ElementKind.FIELD && e.getModifiers().contains(Modifier.STATIC)) {
            boolean isValues = type.startsWith("HouseInRoom.") && type.endsWith("[]");
            require(e.getModifiers().contains(Modifier.FINAL)
                    && (CONSTANT.matcher(type).matches() || isValues), tree, "rule 5: " + tree);
        }
        return super.visitVariable(tree, p);
    }

    @Override
    public Void visitLiteral(LiteralTree tree, Void p) {
        boolean isText = tree.getValue() instanceof String || tree.getValue() instanceof Character;
        require(!isText || tree.getValue().toString().chars().allMatch(s -> s >= 1 && s <= 127)
                || tree.getValue().equals('\0'), tree, "rule 4: " + tree);
        return super.visitLiteral(tree, p);
    }

    @Override
    public Void visitMethod(MethodTree tree, Void p) {
        method = tree;
        ExecutableElement e = (ExecutableElement) trees.getElement(getCurrentPath());
        name = e.getEnclosingElement() + "." + e;
        calls.put(name, new HashSet<>());
        require(tree.getParameters().size() <= MOST_PARAMETERS, tree, "rule 11: parameters of " + name);
        require(TYPE.matcher(e.getReturnType().toString()).matches(), tree, "rule 3: " + name);
        long begin = trees.getSourcePositions().getStartPosition(unit, tree);
        long end = trees.getSourcePositions().getEndPosition(unit, tree);
        if (end >= 0) {
            long lines = 1 + unit.getLineMap().getLineNumber(end) - unit.getLineMap().getLineNumber(begin);
            require(lines <= MOST_LINES, tree, "rule 11: " + name + " has " + lines + " lines");
        }
        super.visitMethod(tree, p);
        method = null;
        return null;
    }

    @Override
    public Void visitMethodInvocation(MethodInvocationTree tree, Void p) {
        Element e = elementOf(tree.getMethodSelect());
        boolean isConstructor = e.getKind() == ElementKind.CONSTRUCTOR;
        if (!isConstructor) {
            String owner = e.getEnclosingElement().toString();
            String called = e.getEnclosingElement().getSimpleName() + "." + e;
            boolean isOwn = owner.startsWith("HouseInRoom");
            require(isOwn || LIBRARY.matcher(called).matches(), tree, "rule 4: " + called);
            if (method != null && isOwn) {
                calls.get(name).add(owner + "." + e);
            }
            require(!isOwn || !isMaking() || !canBeOverridden(e), tree,
                    "rule 12: a constructor calls " + called);
            requireNothingHandedOut(isOwn, tree.getArguments());
        }
        return super.visitMethodInvocation(tree, p);
    }

    @Override
    public Void visitNewClass(NewClassTree tree, Void p) {
        Element e = elementOf(tree);
        boolean isOwn = e == null || e.getEnclosingElement().toString().startsWith("HouseInRoom");
        require(isOwn || LIBRARY.matcher(e.toString()).matches(), tree, "rule 4: " + tree);
        requireNothingHandedOut(isOwn, tree.getArguments());
        return super.visitNewClass(tree, p);
    }

    /** Whether what is looked at is done while an object is made. */
    private boolean isMaking() {
        return method == null || method.getName().contentEquals("<init>");
    }

    private static boolean canBeOverridden(Element e) {
        Set<Modifier> m = e.getModifiers();
        return !m.contains(Modifier.PRIVATE) && !m.contains(Modifier.STATIC) && !m.contains(Modifier.FINAL)
                && !e.getEnclosingElement().getModifiers().contains(Modifier.FINAL);
    }

    /** While an object is made, neither it nor a row or an object of its fields goes to other code. */
    private void requireNothingHandedOut(boolean isOwn, List<? extends ExpressionTree> arguments) {
        for (ExpressionTree argument : arguments) {
            boolean isPart = argument instanceof IdentifierTree || argument instanceof MemberSelectTree;
            Element e = isPart ? elementOf(argument) : null;
            boolean isField = e != null && e.getKind() == ElementKind.FIELD
                    && !e.getModifiers().contains(Modifier.STATIC) && !e.asType().getKind().isPrimitive();
            boolean isThis = argument.toString().equals("this");
            require(!isMaking() || !isThis && !(isOwn && isField), argument,
                    "rule 12: a constructor hands out " + argument);
        }
    }

    @Override
    public Void visitBinary(BinaryTree tree, Void p) {
        ExpressionTree a = tree.getLeftOperand();
        ExpressionTree b = tree.getRightOperand();
        switch (tree.getKind()) {
            case PLUS:
                require(!isText(a) && !isText(b), tree, "rule 10: " + tree);
                break;
            case EQUAL_TO: case NOT_EQUAL_TO:
                require(!(isText(a) && isText(b)) && !(typeOf(a).equals("java.lang.Integer")
                        && typeOf(b).equals("java.lang.Integer")), tree, "rule 6: " + tree);
                break;
            default:
                break;
        }
        return super.visitBinary(tree, p);
    }

    @Override
    public Void visitCompoundAssignment(CompoundAssignmentTree tree, Void p) {
        require(!isText(tree.getVariable()), tree, "rule 10: " + tree);
        return super.visitCompoundAssignment(tree, p);
    }

    @Override
    public Void visitForLoop(ForLoopTree tree, Void p) {
        requireEnd(tree, tree.getCondition());
        return super.visitForLoop(tree, p);
    }

    @Override
    public Void visitWhileLoop(WhileLoopTree tree, Void p) {
        requireEnd(tree, tree.getCondition());
        return super.visitWhileLoop(tree, p);
    }

    @Override
    public Void visitDoWhileLoop(DoWhileLoopTree tree, Void p) {
        requireEnd(tree, tree.getCondition());
        return super.visitDoWhileLoop(tree, p);
    }

    /** Whether the end is far enough off or near enough can't be seen here, but that there is none can. */
    private void requireEnd(Tree loop, ExpressionTree condition) {
        require(condition != null && !condition.toString().matches("\\(*true\\)*"), loop,
                "rule 9: a loop without an end");
    }

    /** How many calls stand open at most below a method; what comes to itself (rule 8) is left out. */
    private int depthBelow(String from, List<String> open) {
        if (open.contains(from)) {
            return 0;
        }
        open.add(from);
        int deepest = 0;
        for (String to : calls.getOrDefault(from, Set.of())) {
            deepest = Math.max(deepest, 1 + depthBelow(to, open));
        }
        open.remove(open.size() - 1);
        if (open.isEmpty() && deepest > MOST_DEPTH) {
            wrongs.add("rule 11: calls go " + deepest + " deep below " + from);
        }
        return deepest;
    }
}
