import com.sun.source.tree.ClassTree;
import com.sun.source.tree.CompilationUnitTree;
import com.sun.source.tree.MethodInvocationTree;
import com.sun.source.tree.MethodTree;
import com.sun.source.util.JavacTask;
import com.sun.source.util.TreePathScanner;
import com.sun.source.util.Trees;
import java.io.IOException;
import java.nio.file.Path;
import java.util.ArrayDeque;
import java.util.Deque;
import java.util.LinkedHashMap;
import java.util.LinkedHashSet;
import java.util.List;
import java.util.Map;
import java.util.Set;
import javax.lang.model.element.Element;
import javax.lang.model.element.Modifier;
import javax.tools.JavaCompiler;
import javax.tools.StandardJavaFileManager;
import javax.tools.ToolProvider;

/** Rules 8 and 11 of LANGUAGE.md: which method calls which, how deep that goes, and that none calls itself. */
public final class CallsTest {
    private static final int DEEPEST = 8;

    /** Of each method of the file those that it calls, the library's too. */
    private final Map<Element, Set<Element>> calls = new LinkedHashMap<>();
    private final Map<Element, Integer> depths = new LinkedHashMap<>();
    private final Deque<Element> open = new ArrayDeque<>();

    public static void main(String[] args) throws IOException {
        new CallsTest().run(Path.of(args.length > 0 ? args[0] : "src/main/java/AbsentCarpets.java"));
        Check.end();
    }

    private void run(Path source) throws IOException {
        read(source);
        int publicOnes = 0;
        for (Element method : calls.keySet()) {
            int depth = depthOf(method);
            Check.holds(method + " goes " + depth + " deep, due is " + DEEPEST + " at most", depth <= DEEPEST);
            if (method.getModifiers().contains(Modifier.PUBLIC)) {
                publicOnes++;
            }
        }
        Check.due("public methods and the constructor", publicOnes, 27);
    }

    private void read(Path source) throws IOException {
        JavaCompiler compiler = ToolProvider.getSystemJavaCompiler();
        try (StandardJavaFileManager files = compiler.getStandardFileManager(null, null, null)) {
            JavacTask task = (JavacTask) compiler.getTask(null, files, null, List.of("-proc:none"), null,
                    files.getJavaFileObjects(source));
            Iterable<? extends CompilationUnitTree> units = task.parse();
            task.analyze();
            Trees trees = Trees.instance(task);
            for (CompilationUnitTree unit : units) {
                new Scanner(trees).scan(unit, null);
            }
        }
    }

    /** How many calls stand open at once at most, this one among them. */
    private int depthOf(Element method) {
        Integer known = depths.get(method);
        if (known != null) {
            return known;
        }
        Check.holds(method + " does not call itself", !open.contains(method));
        if (open.contains(method)) {
            return DEEPEST;
        }
        open.push(method);
        int depth = 1;
        for (Element called : calls.getOrDefault(method, Set.of())) {
            depth = Math.max(depth, 1 + depthOf(called));
        }
        open.pop();
        depths.put(method, depth);
        return depth;
    }

    private final class Scanner extends TreePathScanner<Void, Void> {
        private final Trees trees;
        private Element method;

        Scanner(Trees trees) {
            this.trees = trees;
        }

        @Override
        public Void visitClass(ClassTree tree, Void nothing) {
            Element outer = method;
            method = null;
            super.visitClass(tree, nothing);
            method = outer;
            return null;
        }

        @Override
        public Void visitMethod(MethodTree tree, Void nothing) {
            method = trees.getElement(getCurrentPath());
            calls.put(method, new LinkedHashSet<>());
            super.visitMethod(tree, nothing);
            method = null;
            return null;
        }

        @Override
        public Void visitMethodInvocation(MethodInvocationTree tree, Void nothing) {
            Element called = trees.getElement(getCurrentPath());
            if (method != null && called != null) {
                calls.get(method).add(called);
            }
            return super.visitMethodInvocation(tree, nothing);
        }
    }
}
