import com.sun.source.tree.AssertTree;
import com.sun.source.tree.BinaryTree;
import com.sun.source.tree.ClassTree;
import com.sun.source.tree.CompilationUnitTree;
import com.sun.source.tree.ImportTree;
import com.sun.source.tree.LambdaExpressionTree;
import com.sun.source.tree.MemberReferenceTree;
import com.sun.source.tree.MethodInvocationTree;
import com.sun.source.tree.MethodTree;
import com.sun.source.tree.NewClassTree;
import com.sun.source.tree.SynchronizedTree;
import com.sun.source.tree.ThrowTree;
import com.sun.source.tree.Tree;
import com.sun.source.tree.TryTree;
import com.sun.source.tree.VariableTree;
import com.sun.source.util.JavacTask;
import com.sun.source.util.TreePathScanner;
import com.sun.source.util.Trees;
import java.io.IOException;
import java.nio.file.Path;
import java.util.LinkedHashMap;
import java.util.LinkedHashSet;
import java.util.List;
import java.util.Map;
import java.util.Set;
import javax.lang.model.element.Element;
import javax.lang.model.element.ElementKind;
import javax.lang.model.element.Modifier;
import javax.tools.JavaCompiler;
import javax.tools.StandardJavaFileManager;
import javax.tools.ToolProvider;

/** What of LANGUAGE.md can be counted in the source: rules 2 to 8, 11 and 13; FaceTest sees to rule 1. */
public final class LanguageTest extends TreePathScanner<Void, Void> {
    private static final Set<String> LIBRARY = Set.of("java.lang.Object()", "java.lang.Math.min", "java.lang.Math.abs",
        "java.lang.System.arraycopy", "java.util.Arrays.fill", "java.util.Arrays.copyOfRange");
    private static final Set<String> TYPES = Set.of("int", "long", "byte", "boolean", "byte[]", "int[]");
    private static final String THROWN = "java.lang.ArrayIndexOutOfBoundsException";
    private static final int MOST_CLASSES = 12;
    private static final int MOST_FIELDS = 20;
    private static final int MOST_PARAMETERS = 7;
    private static final int MOST_LINES = 60;
    private static final int MOST_DEPTH = 8;

    private final Trees trees;
    private final CompilationUnitTree unit;
    private final Map<Element, Set<Element>> calls = new LinkedHashMap<>();
    private int classes;

    private LanguageTest(Trees trees, CompilationUnitTree unit) {
        this.trees = trees;
        this.unit = unit;
    }

    public static void main(String[] args) throws IOException {
        JavaCompiler compiler = ToolProvider.getSystemJavaCompiler();
        try (StandardJavaFileManager files = compiler.getStandardFileManager(null, null, null)) {
            JavacTask task = (JavacTask) compiler.getTask(null, files, null, null, null,
                files.getJavaFileObjects(Path.of("src/main/java/MapText.java")));
            CompilationUnitTree unit = task.parse().iterator().next();
            task.analyze();
            LanguageTest test = new LanguageTest(Trees.instance(task), unit);
            test.scan(unit, null);
            test.holds("at most twelve classes", test.classes <= MOST_CLASSES);
            for (Element method : test.calls.keySet()) {
                test.holds("calls go at most eight deep from " + method, test.depth(method, 0) <= MOST_DEPTH);
            }
        }
        Check.end();
    }

    private void holds(String rule, boolean kept) {
        Check.due(rule + " (1 yes, 0 no)", kept ? 1 : 0, 1);
    }

    private Void refuse(Tree tree) {
        Check.due("refused: " + tree, 1, 0);
        return null;
    }

    /** How many calls stand open at once; a call of itself, by whatever way, goes too deep. */
    private int depth(Element method, int open) {
        int deepest = 0;
        if (open <= MOST_DEPTH) {
            for (Element next : calls.getOrDefault(method, Set.of())) {
                deepest = Math.max(deepest, depth(next, open + 1));
            }
        }
        return deepest + 1;
    }

    private void called(Element callee) {
        Element owner = callee.getEnclosingElement();
        String name = owner + (callee.getKind() == ElementKind.CONSTRUCTOR ? "()" : "." + callee.getSimpleName());
        if (!owner.toString().startsWith("MapText")) {
            holds("the library has " + name, LIBRARY.contains(name) || name.equals(THROWN + "()"));
        } else if (method() != null) {
            calls.computeIfAbsent(method(), m -> new LinkedHashSet<>()).add(callee);
        }
    }

    private Element method() {
        var path = getCurrentPath();
        while (path != null && !(path.getLeaf() instanceof MethodTree)) {
            path = path.getParentPath();
        }
        return path == null ? null : trees.getElement(path);
    }

    @Override
    public Void visitImport(ImportTree tree, Void none) {
        Check.due("the import", tree.getQualifiedIdentifier().toString(), "java.util.Arrays");
        return null;
    }

    @Override
    public Void visitClass(ClassTree tree, Void none) {
        classes++;
        boolean outer = getCurrentPath().getParentPath().getLeaf() == unit;
        holds("static: " + tree.getSimpleName(), outer || tree.getModifiers().getFlags().contains(Modifier.STATIC));
        long fields = tree.getMembers().stream().filter(m -> m instanceof VariableTree v
            && !v.getModifiers().getFlags().contains(Modifier.STATIC)).count();
        holds("at most twenty fields: " + tree.getSimpleName(), fields <= MOST_FIELDS);
        holds("no initialiser block: " + tree.getSimpleName(),
            tree.getMembers().stream().noneMatch(m -> m.getKind() == Tree.Kind.BLOCK));
        return super.visitClass(tree, none);
    }

    @Override
    public Void visitMethod(MethodTree tree, Void none) {
        var places = trees.getSourcePositions();
        long first = unit.getLineMap().getLineNumber(places.getStartPosition(unit, tree));
        long last = unit.getLineMap().getLineNumber(Math.max(places.getStartPosition(unit, tree),
            places.getEndPosition(unit, tree)));
        holds("at most sixty lines: " + tree.getName(), last - first < MOST_LINES);
        holds("at most seven parameters: " + tree.getName(), tree.getParameters().size() <= MOST_PARAMETERS);
        calls.putIfAbsent(trees.getElement(getCurrentPath()), new LinkedHashSet<>());
        return super.visitMethod(tree, none);
    }

    @Override
    public Void visitVariable(VariableTree tree, Void none) {
        String type = trees.getElement(getCurrentPath()).asType().toString();
        holds("of a type that is let: " + tree, TYPES.contains(type) || type.matches("MapText\\.[A-Za-z]+(\\[\\])?"));
        Set<Modifier> flags = tree.getModifiers().getFlags();
        holds("a constant: " + tree, !flags.contains(Modifier.STATIC)
            || flags.contains(Modifier.FINAL) && type.equals("int"));
        return super.visitVariable(tree, none);
    }

    @Override
    public Void visitMethodInvocation(MethodInvocationTree tree, Void none) {
        called(trees.getElement(getCurrentPath()));
        return super.visitMethodInvocation(tree, none);
    }

    @Override
    public Void visitNewClass(NewClassTree tree, Void none) {
        called(trees.getElement(getCurrentPath()));
        return super.visitNewClass(tree, none);
    }

    @Override
    public Void visitThrow(ThrowTree tree, Void none) {
        Check.due("what is thrown", tree.getExpression().toString(), "new ArrayIndexOutOfBoundsException()");
        Check.due("who throws", String.valueOf(method()), "octet(int)");
        return super.visitThrow(tree, none);
    }

    @Override
    public Void visitBinary(BinaryTree tree, Void none) {
        for (Tree side : List.of(tree.getLeftOperand(), tree.getRightOperand())) {
            String type = String.valueOf(trees.getTypeMirror(trees.getPath(unit, side)));
            holds("no texts joined or compared: " + tree, !type.equals("java.lang.String"));
        }
        return super.visitBinary(tree, none);
    }

    @Override
    public Void visitTry(TryTree tree, Void none) {
        return refuse(tree);
    }

    @Override
    public Void visitLambdaExpression(LambdaExpressionTree tree, Void none) {
        return refuse(tree);
    }

    @Override
    public Void visitMemberReference(MemberReferenceTree tree, Void none) {
        return refuse(tree);
    }

    @Override
    public Void visitSynchronized(SynchronizedTree tree, Void none) {
        return refuse(tree);
    }

    @Override
    public Void visitAssert(AssertTree tree, Void none) {
        return refuse(tree);
    }
}
