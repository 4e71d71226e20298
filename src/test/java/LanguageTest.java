import com.sun.source.tree.AssertTree;
import com.sun.source.tree.BinaryTree;
import com.sun.source.tree.ClassTree;
import com.sun.source.tree.CompilationUnitTree;
import com.sun.source.tree.DoWhileLoopTree;
import com.sun.source.tree.ForLoopTree;
import com.sun.source.tree.ImportTree;
import com.sun.source.tree.LambdaExpressionTree;
import com.sun.source.tree.MemberReferenceTree;
import com.sun.source.tree.MethodInvocationTree;
import com.sun.source.tree.MethodTree;
import com.sun.source.tree.NewClassTree;
import com.sun.source.tree.SynchronizedTree;
import com.sun.source.tree.ThrowTree;
import com.sun.source.tree.Tree;
import com.sun.source.tree.TryTree;
import com.sun.source.tree.VariableTree;
import com.sun.source.tree.WhileLoopTree;
import com.sun.source.util.JavacTask;
import com.sun.source.util.TreePathScanner;
import com.sun.source.util.Trees;
import java.io.File;
import java.nio.charset.StandardCharsets;
import java.nio.file.Files;
import java.nio.file.Path;
import java.util.HashSet;
import java.util.Map;
import java.util.Set;
import java.util.TreeMap;
import java.util.TreeSet;
import javax.lang.model.element.Element;
import javax.lang.model.element.ElementKind;
import javax.lang.model.element.ExecutableElement;
import javax.lang.model.element.Modifier;
import javax.tools.JavaCompiler;
import javax.tools.StandardJavaFileManager;
import javax.tools.ToolProvider;

/** ../shared/LANGUAGE.md, so far as a compiler's tree shows it. */
public final class LanguageTest extends TreePathScanner<Void, Void> {
    private static final Set<String> LIBRARY = Set.of("String.length", "String.charAt", "Integer.bitCount",
        "Math.min", "Math.max", "System.arraycopy", "Array.clone",
        "Object.<init>", "Enum.<init>", "Token.values");
    private static final Set<String> STATIC = Set.of("int", "long", "boolean", "char", "String", "Token[] ALL = values()");
    private static final Set<String> THROWN = Set.of("IllegalStateException", "IllegalArgumentException",
        "IndexOutOfBoundsException", "UnsupportedOperationException", "NoSuchElementException");

    private final Trees trees;
    private final CompilationUnitTree unit;
    private final Map<String, Set<String>> calls = new TreeMap<>();
    private int classes = 0;

    private LanguageTest(Trees trees, CompilationUnitTree unit) {
        this.trees = trees;
        this.unit = unit;
    }

    public static void main(String[] args) throws Exception {
        JavaCompiler compiler = ToolProvider.getSystemJavaCompiler();
        StandardJavaFileManager files = compiler.getStandardFileManager(null, null, null);
        JavacTask task = (JavacTask) compiler.getTask(null, files, null, null, null,
            files.getJavaFileObjects(new File("src/main/java/GripEstates.java")));
        CompilationUnitTree unit = task.parse().iterator().next();
        task.analyze();
        LanguageTest test = new LanguageTest(Trees.instance(task), unit);
        test.scan(unit, null);
        Check.due("some twelve classes, " + test.classes, true, test.classes <= 13);
        test.depths();
        byte[] source = Files.readAllBytes(Path.of("src/main/java/GripEstates.java"));
        Check.due("signs of 1 to 127", true, StandardCharsets.US_ASCII.newEncoder().canEncode(
            new String(source, StandardCharsets.UTF_8)));
        Check.end();
    }

    private void no(String what, Tree tree) {
        long line = unit.getLineMap().getLineNumber(trees.getSourcePositions().getStartPosition(unit, tree));
        Check.due(what + " in line " + line, true, false);
    }

    @Override
    public Void visitImport(ImportTree tree, Void nothing) {
        Check.due("import", "java.util.NoSuchElementException", tree.getQualifiedIdentifier().toString());
        return super.visitImport(tree, nothing);
    }

    @Override
    public Void visitClass(ClassTree tree, Void nothing) {
        classes++;
        return super.visitClass(tree, nothing);
    }

    @Override
    public Void visitMethod(MethodTree tree, Void nothing) {
        long from = unit.getLineMap().getLineNumber(trees.getSourcePositions().getStartPosition(unit, tree));
        long end = trees.getSourcePositions().getEndPosition(unit, tree);
        long to = end < 0 ? from : unit.getLineMap().getLineNumber(end);
        Check.due("sixty lines at most: " + tree.getName(), true, to - from < 60);
        Check.due("seven parameters at most: " + tree.getName(), true, tree.getParameters().size() <= 7);
        calls.computeIfAbsent(name(trees.getElement(getCurrentPath())), n -> new TreeSet<>());
        return super.visitMethod(tree, nothing);
    }

    @Override
    public Void visitMethodInvocation(MethodInvocationTree tree, Void nothing) {
        Element called = trees.getElement(getCurrentPath());
        Element caller = caller();
        if (called instanceof ExecutableElement && caller != null) {
            String to = name(called);
            calls.computeIfAbsent(name(caller), n -> new TreeSet<>()).add(to);
            boolean own = to.startsWith("GripEstates.");
            String plain = called.getEnclosingElement().getSimpleName() + "." + called.getSimpleName();
            Check.due("of the library that is left: " + plain, true, own || LIBRARY.contains(plain));
        }
        return super.visitMethodInvocation(tree, nothing);
    }

    @Override
    public Void visitNewClass(NewClassTree tree, Void nothing) {
        Element called = trees.getElement(getCurrentPath());
        Element caller = caller();
        if (called != null && caller != null) {
            calls.computeIfAbsent(name(caller), n -> new TreeSet<>()).add(name(called));
        }
        return super.visitNewClass(tree, nothing);
    }

    @Override
    public Void visitThrow(ThrowTree tree, Void nothing) {
        Check.due("throw new", true, tree.getExpression() instanceof NewClassTree);
        Check.due("of those listed", true, THROWN.contains(((NewClassTree) tree.getExpression()).getIdentifier().toString()));
        return super.visitThrow(tree, nothing);
    }

    @Override
    public Void visitBinary(BinaryTree tree, Void nothing) {
        String left = String.valueOf(trees.getTypeMirror(getCurrentPath()));
        if (left.equals("java.lang.String")) {
            no("texts joined by +", tree);
        }
        return super.visitBinary(tree, nothing);
    }

    @Override
    public Void visitWhileLoop(WhileLoopTree tree, Void nothing) {
        if (tree.getCondition().toString().equals("(true)")) {
            no("a loop without an end", tree);
        }
        return super.visitWhileLoop(tree, nothing);
    }

    @Override
    public Void visitForLoop(ForLoopTree tree, Void nothing) {
        if (tree.getCondition() == null) {
            no("a loop without an end", tree);
        }
        return super.visitForLoop(tree, nothing);
    }

    @Override
    public Void visitDoWhileLoop(DoWhileLoopTree tree, Void nothing) {
        if (tree.getCondition().toString().equals("(true)")) {
            no("a loop without an end", tree);
        }
        return super.visitDoWhileLoop(tree, nothing);
    }

    @Override
    public Void visitVariable(VariableTree tree, Void nothing) {
        Element field = trees.getElement(getCurrentPath());
        if (field.getKind() == ElementKind.FIELD && field.getModifiers().contains(Modifier.STATIC)) {
            String kept = tree.getType() + " " + tree.getName() + " = " + tree.getInitializer();
            Check.due("a constant: " + kept, true, field.getModifiers().contains(Modifier.FINAL)
                && (STATIC.contains(tree.getType().toString()) || STATIC.contains(kept)));
        }
        String type = String.valueOf(trees.getTypeMirror(getCurrentPath()));
        Check.due("arrays of one dimension: " + tree.getName(), false, type.contains("[][]"));
        return super.visitVariable(tree, nothing);
    }

    @Override
    public Void visitLambdaExpression(LambdaExpressionTree tree, Void nothing) {
        no("a lambda", tree);
        return super.visitLambdaExpression(tree, nothing);
    }

    @Override
    public Void visitMemberReference(MemberReferenceTree tree, Void nothing) {
        no("a method reference", tree);
        return super.visitMemberReference(tree, nothing);
    }

    @Override
    public Void visitTry(TryTree tree, Void nothing) {
        no("a try, of which the class needs none", tree);
        return super.visitTry(tree, nothing);
    }

    @Override
    public Void visitAssert(AssertTree tree, Void nothing) {
        no("an assert", tree);
        return super.visitAssert(tree, nothing);
    }

    @Override
    public Void visitSynchronized(SynchronizedTree tree, Void nothing) {
        no("synchronized", tree);
        return super.visitSynchronized(tree, nothing);
    }

    private Element caller() {
        for (Tree tree : getCurrentPath()) {
            if (tree instanceof MethodTree) {
                return trees.getElement(trees.getPath(unit, tree));
            }
        }
        return null;
    }

    private static String name(Element method) {
        return method.getEnclosingElement() + "." + method;
    }

    /** Calls that are no recursion, the library's counted, too. */
    private void depths() {
        for (String method : calls.keySet()) {
            int depth = depth(method, new HashSet<>());
            Check.due("eight deep at most: " + method + " " + depth, true, depth <= 8);
        }
    }

    private int depth(String method, Set<String> open) {
        if (!open.add(method)) {
            return 0;
        }
        int deepest = 0;
        for (String called : calls.getOrDefault(method, Set.of())) {
            deepest = Math.max(deepest, depth(called, open));
        }
        open.remove(method);
        return deepest + 1;
    }
}
