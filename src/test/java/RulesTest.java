import com.sun.source.tree.ArrayAccessTree;
import com.sun.source.tree.AssignmentTree;
import com.sun.source.tree.BinaryTree;
import com.sun.source.tree.BlockTree;
import com.sun.source.tree.ClassTree;
import com.sun.source.tree.CompilationUnitTree;
import com.sun.source.tree.CompoundAssignmentTree;
import com.sun.source.tree.DoWhileLoopTree;
import com.sun.source.tree.EnhancedForLoopTree;
import com.sun.source.tree.ExpressionTree;
import com.sun.source.tree.ForLoopTree;
import com.sun.source.tree.LiteralTree;
import com.sun.source.tree.MethodInvocationTree;
import com.sun.source.tree.MethodTree;
import com.sun.source.tree.NewArrayTree;
import com.sun.source.tree.NewClassTree;
import com.sun.source.tree.Tree;
import com.sun.source.tree.VariableTree;
import com.sun.source.tree.WhileLoopTree;
import com.sun.source.util.JavacTask;
import com.sun.source.util.TreePath;
import com.sun.source.util.TreePathScanner;
import com.sun.source.util.Trees;
import java.io.IOException;
import java.nio.file.Path;
import java.util.HashMap;
import java.util.HashSet;
import java.util.List;
import java.util.Map;
import java.util.Set;
import javax.lang.model.element.Element;
import javax.lang.model.element.ElementKind;
import javax.lang.model.element.Modifier;
import javax.lang.model.type.TypeKind;
import javax.lang.model.type.TypeMirror;
import javax.tools.JavaCompiler;
import javax.tools.StandardJavaFileManager;
import javax.tools.ToolProvider;

/** The rules of LANGUAGE.md, as the compiler sees the class. Each failure names the rule by its number. */
public final class RulesTest extends TreePathScanner<Void, Void> {
    private static final Path SOURCE = Path.of("src/main/java/DialMenus.java");
    private static final int MOST_LINES = 60;
    private static final int MOST_DEEP = 8;
    // What rule 4 lists and the class needs; whoever needs more of the list adds it here.
    private static final Set<String> LIBRARY = Set.of("java.lang.Math.max", "java.lang.Math.min", "java.util.Arrays.fill",
        "java.lang.System.arraycopy", "Array.clone", "java.lang.Object.<init>");
    private static final Set<Tree.Kind> NEVER = Set.of(Tree.Kind.THROW, Tree.Kind.TRY, Tree.Kind.CATCH,
        Tree.Kind.SYNCHRONIZED, Tree.Kind.ASSERT, Tree.Kind.LAMBDA_EXPRESSION, Tree.Kind.MEMBER_REFERENCE,
        Tree.Kind.SWITCH_EXPRESSION);
    private static final Set<Tree.Kind> DIVISIONS = Set.of(Tree.Kind.DIVIDE, Tree.Kind.REMAINDER,
        Tree.Kind.DIVIDE_ASSIGNMENT, Tree.Kind.REMAINDER_ASSIGNMENT);
    private static final Set<String> STATIC_TYPES = Set.of("int", "long", "boolean", "char", "String", "int[]", "long[]",
        "char[]", "byte[]");
    private static final Check check = new Check();

    private final Trees trees;
    private final CompilationUnitTree unit;
    private final Map<String, Set<String>> calls = new HashMap<>();
    private int classes;

    private RulesTest(Trees trees, CompilationUnitTree unit) {
        this.trees = trees;
        this.unit = unit;
    }

    public static void main(String[] args) throws IOException {
        JavaCompiler compiler = ToolProvider.getSystemJavaCompiler();
        try (StandardJavaFileManager files = compiler.getStandardFileManager(null, null, null)) {
            JavacTask task = (JavacTask) compiler.getTask(null, files, null, null, null, files.getJavaFileObjects(SOURCE));
            CompilationUnitTree unit = task.parse().iterator().next();
            task.analyze();
            RulesTest rules = new RulesTest(Trees.instance(task), unit);
            rules.scan(unit, null);
            rules.wholeFile();
        }
        check.end();
    }

    private String where(Tree tree) {
        long start = trees.getSourcePositions().getStartPosition(unit, tree);
        return "line " + unit.getLineMap().getLineNumber(start);
    }

    private void rule(int number, Tree tree, String what, boolean holds) {
        check.holds("rule " + number + ", " + where(tree) + ": " + what, holds);
    }

    private int lines(Tree tree) {
        long start = trees.getSourcePositions().getStartPosition(unit, tree);
        long end = trees.getSourcePositions().getEndPosition(unit, tree);
        return (int) (unit.getLineMap().getLineNumber(end) - unit.getLineMap().getLineNumber(start)) + 1;
    }

    private Element element(Tree tree) {
        return trees.getElement(new TreePath(getCurrentPath(), tree));
    }

    private static String nameOf(Element element) {
        return element.getEnclosingElement() + "." + element.getSimpleName();
    }

    private void wholeFile() {
        rule(1, unit, "no package", unit.getPackageName() == null);
        rule(11, unit, "at most twelve classes", classes <= 12);
        for (String method : calls.keySet()) {
            check.holds("rule 8: " + method + " is not reached by itself", !reaches(method, method, new HashSet<>()));
        }
        int deepest = 0;
        for (String method : calls.keySet()) {
            int depth = depth(method, 1);
            deepest = Math.max(deepest, depth);
            check.holds("rule 11: calls from " + method + " go " + depth + " deep", depth <= MOST_DEEP);
        }
        System.out.println(classes + " classes, calls go " + deepest + " deep");
    }

    private boolean reaches(String from, String target, Set<String> seen) {
        for (String called : calls.getOrDefault(from, Set.of())) {
            if (called.equals(target) || seen.add(called) && reaches(called, target, seen)) {
                return true;
            }
        }
        return false;
    }

    // The bound keeps this from running on if there is a circle, which is told elsewhere.
    private int depth(String method, int level) {
        int deepest = level;
        for (String called : calls.getOrDefault(method, Set.of())) {
            deepest = Math.max(deepest, level > 20 ? level : depth(called, level + 1));
        }
        return deepest;
    }

    @Override
    public Void scan(Tree tree, Void nothing) {
        if (tree != null) {
            rule(6, tree, "no " + tree.getKind(), !NEVER.contains(tree.getKind()));
        }
        return super.scan(tree, nothing);
    }

    @Override
    public Void visitClass(ClassTree tree, Void nothing) {
        classes++;
        boolean isOuter = getCurrentPath().getParentPath().getLeaf() == unit;
        boolean isMember = isOuter || getCurrentPath().getParentPath().getLeaf() instanceof ClassTree;
        Set<Modifier> modifiers = tree.getModifiers().getFlags();
        rule(2, tree, "no local or anonymous class", isMember);
        rule(2, tree, "a class inside is static", isOuter || modifiers.contains(Modifier.STATIC));
        rule(1, tree, "a class inside is private or package-visible",
            isOuter || !modifiers.contains(Modifier.PUBLIC) && !modifiers.contains(Modifier.PROTECTED));
        int fields = 0;
        for (Tree member : tree.getMembers()) {
            if (member instanceof VariableTree field) {
                fields += field.getModifiers().getFlags().contains(Modifier.STATIC) ? 0 : 1;
                staticField(field);
            }
            rule(5, member, "no initialiser block", !(member instanceof BlockTree));
        }
        rule(11, tree, "at most some twenty fields", fields <= 20);
        return super.visitClass(tree, nothing);
    }

    private void staticField(VariableTree field) {
        if (!field.getModifiers().getFlags().contains(Modifier.STATIC)) {
            return;
        }
        rule(5, field, "a static field is final", field.getModifiers().getFlags().contains(Modifier.FINAL));
        String type = field.getType().toString();
        rule(5, field, "a static field is a constant or an array that is written out", STATIC_TYPES.contains(type)
            && (!type.endsWith("[]") || field.getInitializer() instanceof NewArrayTree));
    }

    @Override
    public Void visitVariable(VariableTree tree, Void nothing) {
        Element element = trees.getElement(getCurrentPath());
        rule(3, tree, element.asType() + " is a type that may be used", isUsable(element.asType()));
        return super.visitVariable(tree, nothing);
    }

    private static boolean isUsable(TypeMirror type) {
        String name = type.toString();
        boolean isNumber = name.matches("int|long|boolean|char|byte|short");
        boolean isOwn = type.getKind() == TypeKind.DECLARED && name.startsWith("DialMenus");
        boolean isRow = name.matches("(int|long|boolean|char|byte|short)\\[\\](\\[\\])?") || name.matches("DialMenus[.\\w]*\\[\\]");
        return isNumber || isOwn || isRow;
    }

    @Override
    public Void visitMethod(MethodTree tree, Void nothing) {
        rule(11, tree, "at most seven parameters", tree.getParameters().size() <= 7);
        rule(11, tree, "the method is short", lines(tree) <= MOST_LINES);
        calls.putIfAbsent(nameOf(trees.getElement(getCurrentPath())), new HashSet<>());
        if (tree.getReturnType() != null && !tree.getReturnType().toString().equals("void")) {
            Element returned = trees.getElement(new TreePath(getCurrentPath(), tree.getReturnType()));
            rule(3, tree, "an answer of a type that may be used", returned == null || isUsable(returned.asType()));
        }
        return super.visitMethod(tree, nothing);
    }

    private String method() {
        for (Tree tree : getCurrentPath()) {
            if (tree instanceof MethodTree) {
                return nameOf(trees.getElement(TreePath.getPath(unit, tree)));
            }
        }
        return "a field";
    }

    private void called(Tree tree, Element element) {
        String name = nameOf(element);
        boolean isOwn = name.startsWith("DialMenus");
        rule(4, tree, name + " is listed", isOwn || LIBRARY.contains(name));
        if (isOwn) {
            calls.computeIfAbsent(method(), key -> new HashSet<>()).add(name);
        }
    }

    @Override
    public Void visitMethodInvocation(MethodInvocationTree tree, Void nothing) {
        called(tree, element(tree.getMethodSelect()));
        return super.visitMethodInvocation(tree, nothing);
    }

    @Override
    public Void visitNewClass(NewClassTree tree, Void nothing) {
        rule(2, tree, "no anonymous class", tree.getClassBody() == null);
        called(tree, trees.getElement(getCurrentPath()));
        String maker = method();
        rule(12, tree, maker + " makes an object", List.of("a field", "DialMenus.ListReader.entryOf").contains(maker));
        return super.visitNewClass(tree, nothing);
    }

    @Override
    public Void visitNewArray(NewArrayTree tree, Void nothing) {
        String maker = method();
        rule(12, tree, maker + " makes an array", maker.equals("a field") || maker.endsWith("<init>"));
        return super.visitNewArray(tree, nothing);
    }

    @Override
    public Void visitAssignment(AssignmentTree tree, Void nothing) {
        if (tree.getVariable() instanceof ArrayAccessTree access) {
            Element array = element(access.getExpression());
            rule(5, tree, "no static array is changed", array == null || !array.getModifiers().contains(Modifier.STATIC));
        }
        return super.visitAssignment(tree, nothing);
    }

    @Override
    public Void visitBinary(BinaryTree tree, Void nothing) {
        TypeMirror type = trees.getTypeMirror(getCurrentPath());
        rule(10, tree, "no text is joined by +", type.getKind().isPrimitive());
        divides(tree, tree.getRightOperand());
        return super.visitBinary(tree, nothing);
    }

    @Override
    public Void visitCompoundAssignment(CompoundAssignmentTree tree, Void nothing) {
        rule(10, tree, "no text is joined by +=", trees.getTypeMirror(getCurrentPath()).getKind().isPrimitive());
        divides(tree, tree.getExpression());
        return super.visitCompoundAssignment(tree, nothing);
    }

    private void divides(Tree tree, ExpressionTree divisor) {
        if (!DIVISIONS.contains(tree.getKind())) {
            return;
        }
        Element constant = divisor instanceof LiteralTree ? null : element(divisor);
        boolean isSafe = divisor instanceof LiteralTree
            || constant != null && constant.getKind() == ElementKind.FIELD && constant.getModifiers().contains(Modifier.STATIC);
        rule(7, tree, "a divisor is a constant", isSafe);
    }

    // Rule 9: a loop with a condition that is no constant, and that compares something.
    private void bounded(Tree loop, ExpressionTree condition) {
        rule(9, loop, "a loop has an end", condition != null && condition.toString().matches("(?s).*[<>].*"));
    }

    @Override
    public Void visitForLoop(ForLoopTree tree, Void nothing) {
        bounded(tree, tree.getCondition());
        rule(9, tree, "a loop counts", tree.getUpdate().size() == 1);
        return super.visitForLoop(tree, nothing);
    }

    @Override
    public Void visitWhileLoop(WhileLoopTree tree, Void nothing) {
        bounded(tree, tree.getCondition());
        return super.visitWhileLoop(tree, nothing);
    }

    @Override
    public Void visitDoWhileLoop(DoWhileLoopTree tree, Void nothing) {
        bounded(tree, tree.getCondition());
        return super.visitDoWhileLoop(tree, nothing);
    }

    @Override
    public Void visitEnhancedForLoop(EnhancedForLoopTree tree, Void nothing) {
        TypeMirror type = trees.getTypeMirror(new TreePath(getCurrentPath(), tree.getExpression()));
        rule(12, tree, "no iterator of a list", type.getKind() == TypeKind.ARRAY);
        return super.visitEnhancedForLoop(tree, nothing);
    }
}
