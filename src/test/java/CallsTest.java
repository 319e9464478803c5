import com.sun.source.tree.ClassTree;
import com.sun.source.tree.CompilationUnitTree;
import com.sun.source.tree.MethodInvocationTree;
import com.sun.source.tree.MethodTree;
import com.sun.source.tree.NewClassTree;
import com.sun.source.util.JavacTask;
import com.sun.source.util.TreePath;
import com.sun.source.util.TreePathScanner;
import com.sun.source.util.Trees;
import java.io.IOException;
import java.nio.file.Path;
import java.util.ArrayList;
import java.util.HashMap;
import java.util.List;
import java.util.Map;
import java.util.Set;
import java.util.TreeSet;
import javax.lang.model.element.Element;
import javax.tools.JavaCompiler;
import javax.tools.StandardJavaFileManager;
import javax.tools.ToolProvider;

/**
 * Rules of LANGUAGE.md about calls: how deep they go (11), that none goes round (8), and what is called of
 * the library (4, 6). The compiler itself says which method a call means. Run in the project's folder.
 */
public final class CallsTest extends TreePathScanner<Void, Void> {
    private static final int DEEPEST = 8;
    private static final Set<String> LIBRARY = Set.of("Math.max", "Math.min", "System.arraycopy", "Object.<init>",
            "IllegalArgumentException.<init>", "IllegalStateException.<init>", "IndexOutOfBoundsException.<init>");

    private final Trees trees;
    /** What each method of the class calls, by the names of their classes and their own. */
    private final Map<String, Set<String>> called = new HashMap<>();
    private String caller = "";

    private CallsTest(Trees trees) {
        this.trees = trees;
    }

    public static void main(String[] args) throws IOException {
        JavaCompiler compiler = ToolProvider.getSystemJavaCompiler();
        try (StandardJavaFileManager files = compiler.getStandardFileManager(null, null, null)) {
            var sources = files.getJavaFileObjects(Path.of("src/main/java/WinterRoad.java"));
            JavacTask task = (JavacTask) compiler.getTask(null, files, null, List.of("-proc:none"), null, sources);
            CompilationUnitTree unit = task.parse().iterator().next();
            task.analyze();
            CallsTest calls = new CallsTest(Trees.instance(task));
            calls.scan(unit, null);
            calls.check();
        }
        Check.end();
    }

    private void check() {
        Check.due("methods, at least those of the face", Math.min(called.size(), 30), 30);
        for (String method : called.keySet()) {
            List<String> chain = longestChain(method, List.of());
            Check.due("deeper than " + DEEPEST + ": " + chain, Math.max(chain.size(), DEEPEST), DEEPEST);
            for (String one : called.get(method)) {
                boolean known = called.containsKey(one) || LIBRARY.contains(one);
                Check.due(method + " calls " + one + ", allowed", known ? 1 : 0, 1);
            }
        }
    }

    /** The longest chain of calls that begins with a method; one that goes round ends, far too long. */
    private List<String> longestChain(String method, List<String> above) {
        List<String> longest = new ArrayList<>();
        if (above.size() <= 2 * DEEPEST) {
            List<String> open = new ArrayList<>(above);
            open.add(method);
            for (String one : called.getOrDefault(method, Set.of())) {
                List<String> chain = longestChain(one, open);
                longest = chain.size() > longest.size() ? chain : longest;
            }
        }
        longest.add(0, method);
        return longest;
    }

    // ---- reading the source

    /** What stands in a class beside its methods, the first values of its fields, its constructor does. */
    @Override
    public Void visitClass(ClassTree tree, Void nothing) {
        return within(tree.getSimpleName() + ".<init>", () -> super.visitClass(tree, null));
    }

    @Override
    public Void visitMethod(MethodTree tree, Void nothing) {
        return within(name(trees.getElement(getCurrentPath())), () -> super.visitMethod(tree, null));
    }

    @Override
    public Void visitMethodInvocation(MethodInvocationTree tree, Void nothing) {
        note(trees.getElement(new TreePath(getCurrentPath(), tree.getMethodSelect())));
        return super.visitMethodInvocation(tree, null);
    }

    @Override
    public Void visitNewClass(NewClassTree tree, Void nothing) {
        note(trees.getElement(getCurrentPath()));
        return super.visitNewClass(tree, null);
    }

    private Void within(String method, Runnable scan) {
        String around = caller;
        caller = method;
        called.computeIfAbsent(method, m -> new TreeSet<>());
        scan.run();
        caller = around;
        return null;
    }

    private void note(Element method) {
        called.get(caller).add(name(method));
    }

    private static String name(Element method) {
        return method.getEnclosingElement().getSimpleName() + "." + method.getSimpleName();
    }
}
