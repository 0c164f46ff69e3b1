import com.sun.source.tree.AssertTree;
import com.sun.source.tree.BinaryTree;
import com.sun.source.tree.ClassTree;
import com.sun.source.tree.CompilationUnitTree;
import com.sun.source.tree.CompoundAssignmentTree;
import com.sun.source.tree.ImportTree;
import com.sun.source.tree.LambdaExpressionTree;
import com.sun.source.tree.MemberReferenceTree;
import com.sun.source.tree.MethodInvocationTree;
import com.sun.source.tree.MethodTree;
import com.sun.source.tree.SynchronizedTree;
import com.sun.source.tree.ThrowTree;
import com.sun.source.tree.Tree;
import com.sun.source.tree.TryTree;
import com.sun.source.util.JavacTask;
import com.sun.source.util.SourcePositions;
import com.sun.source.util.TreePath;
import com.sun.source.util.TreePathScanner;
import com.sun.source.util.Trees;
import java.io.File;
import java.io.IOException;
import java.util.Arrays;
import java.util.HashSet;
import java.util.List;
import java.util.Map;
import java.util.Set;
import java.util.TreeMap;
import java.util.TreeSet;
import javax.lang.model.element.Element;
import javax.lang.model.type.TypeKind;
import javax.tools.JavaCompiler;
import javax.tools.StandardJavaFileManager;
import javax.tools.ToolProvider;

/** What of LANGUAGE.md a reader of the source can count. Its argument is the source's path. */
public final class LanguageTest extends TreePathScanner<Void, Void> {
    private static final int LONGEST_METHOD = 60, DEEPEST_CALL = 8, MOST_CLASSES = 12;
    private static final Set<String> LIBRARY = new HashSet<>(Arrays.asList("java.lang.Math.min", "java.lang.Math.max",
            "java.lang.Math.abs", "java.lang.Integer.bitCount", "java.lang.System.arraycopy", "java.lang.String.length",
            "java.lang.String.charAt"));

    private final Trees trees;
    private final CompilationUnitTree unit;
    private final Map<String, TreeSet<String>> calls = new TreeMap<>();
    private String method = "";
    private int classes = 0;

    private LanguageTest(Trees trees, CompilationUnitTree unit) {
        this.trees = trees;
        this.unit = unit;
    }

    public static void main(String[] args) throws IOException {
        JavaCompiler compiler = ToolProvider.getSystemJavaCompiler();
        try (StandardJavaFileManager files = compiler.getStandardFileManager(null, null, null)) {
            File source = new File(args.length > 0 ? args[0] : "src/main/java/StrideTurns.java");
            JavacTask task = (JavacTask) compiler.getTask(null, files, null, List.of("-proc:none"), null,
                    files.getJavaFileObjects(source));
            CompilationUnitTree unit = task.parse().iterator().next();
            task.analyze();
            LanguageTest test = new LanguageTest(Trees.instance(task), unit);
            test.scan(unit, null);
            test.depths();
            Check.holds("no package", unit.getPackageName() == null);
            Check.holds("some twelve classes at most", test.classes <= MOST_CLASSES);
            for (int at = 0; at < unit.getSourceFile().getCharContent(true).length(); at++) {
                Check.holds("signs are plain", unit.getSourceFile().getCharContent(true).charAt(at) < 128);
            }
        }
        Check.end();
    }

    private String where(Tree tree) {
        return "line " + unit.getLineMap().getLineNumber(trees.getSourcePositions().getStartPosition(unit, tree));
    }

    private void forbidden(Tree tree, String what) {
        Check.holds("no " + what + ", " + where(tree), false);
    }

    private String nameOf(Element element) {
        return element.getEnclosingElement() + "." + element.getSimpleName();
    }

    private void depths() {
        for (String from : calls.keySet()) {
            List<String> way = deepest(from, new HashSet<>());
            Check.holds("at most eight calls deep: " + way, way.size() <= DEEPEST_CALL);
        }
    }

    private List<String> deepest(String from, Set<String> open) {
        List<String> best = List.of();
        Check.holds("no recursion: " + from, open.add(from));
        for (String to : calls.getOrDefault(from, new TreeSet<>())) {
            List<String> way = open.contains(to) ? List.of() : deepest(to, open);
            best = way.size() > best.size() ? way : best;
        }
        open.remove(from);
        java.util.ArrayList<String> way = new java.util.ArrayList<>(List.of(from));
        way.addAll(best);
        return way;
    }

    @Override
    public Void visitClass(ClassTree tree, Void none) {
        classes++;
        return super.visitClass(tree, none);
    }

    @Override
    public Void visitMethod(MethodTree tree, Void none) {
        SourcePositions positions = trees.getSourcePositions();
        long first = unit.getLineMap().getLineNumber(Math.max(0, positions.getStartPosition(unit, tree)));
        long last = unit.getLineMap().getLineNumber(Math.max(0, positions.getEndPosition(unit, tree)));
        Check.holds(tree.getName() + " is short", last - first < LONGEST_METHOD);
        Check.holds(tree.getName() + " takes seven parameters at most", tree.getParameters().size() <= 7);
        method = nameOf(trees.getElement(getCurrentPath()));
        calls.putIfAbsent(method, new TreeSet<>());
        return super.visitMethod(tree, none);
    }

    @Override
    public Void visitMethodInvocation(MethodInvocationTree tree, Void none) {
        String called = nameOf(trees.getElement(new TreePath(getCurrentPath(), tree.getMethodSelect())));
        if (called.startsWith("java.")) {
            Check.holds(called + " is of the library that may be used, " + where(tree),
                    LIBRARY.contains(called) || called.equals("java.lang.Object.<init>"));
        } else {
            calls.get(method).add(called);
        }
        return super.visitMethodInvocation(tree, none);
    }

    private boolean isReal(Tree tree) {
        TypeKind kind = trees.getTypeMirror(new TreePath(getCurrentPath(), tree)).getKind();
        return kind == TypeKind.FLOAT || kind == TypeKind.DOUBLE;
    }

    @Override
    public Void visitBinary(BinaryTree tree, Void none) {
        boolean real = isReal(tree.getLeftOperand()) || isReal(tree.getRightOperand());
        Check.holds("no remainder of floats or doubles, " + where(tree), tree.getKind() != Tree.Kind.REMAINDER || !real);
        return super.visitBinary(tree, none);
    }

    @Override
    public Void visitCompoundAssignment(CompoundAssignmentTree tree, Void none) {
        boolean real = isReal(tree.getVariable()) || isReal(tree.getExpression());
        Check.holds("no remainder of floats or doubles, " + where(tree),
                tree.getKind() != Tree.Kind.REMAINDER_ASSIGNMENT || !real);
        return super.visitCompoundAssignment(tree, none);
    }

    @Override
    public Void visitImport(ImportTree tree, Void none) {
        forbidden(tree, "import");
        return null;
    }

    @Override
    public Void visitLambdaExpression(LambdaExpressionTree tree, Void none) {
        forbidden(tree, "lambda");
        return null;
    }

    @Override
    public Void visitMemberReference(MemberReferenceTree tree, Void none) {
        forbidden(tree, "method reference");
        return null;
    }

    @Override
    public Void visitThrow(ThrowTree tree, Void none) {
        forbidden(tree, "throw: the document names no exception");
        return null;
    }

    @Override
    public Void visitTry(TryTree tree, Void none) {
        forbidden(tree, "try");
        return null;
    }

    @Override
    public Void visitSynchronized(SynchronizedTree tree, Void none) {
        forbidden(tree, "synchronized");
        return null;
    }

    @Override
    public Void visitAssert(AssertTree tree, Void none) {
        forbidden(tree, "assert");
        return null;
    }
}
