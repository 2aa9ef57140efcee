import com.sun.source.tree.CompilationUnitTree;
import com.sun.source.tree.MethodInvocationTree;
import com.sun.source.tree.MethodTree;
import com.sun.source.tree.NewClassTree;
import com.sun.source.util.JavacTask;
import com.sun.source.util.TreePathScanner;
import com.sun.source.util.Trees;
import java.io.IOException;
import java.nio.file.Path;
import java.util.ArrayList;
import java.util.HashMap;
import java.util.List;
import java.util.Map;
import java.util.TreeMap;
import java.util.TreeSet;
import javax.lang.model.element.Element;
import javax.tools.JavaCompiler;
import javax.tools.StandardJavaFileManager;
import javax.tools.ToolProvider;

/** No method of the file comes back to itself by its calls, and they go at most eight deep; argument: the file. */
public final class Depth {
    private static final int DEEPEST = 8;

    private final Map<String, TreeSet<String>> calls = new TreeMap<>();
    private final Map<String, List<String>> deepest = new HashMap<>();
    private final TreeSet<String> open = new TreeSet<>();
    private int wrong = 0;

    public static void main(String[] args) throws IOException {
        Depth depth = new Depth();
        depth.read(Path.of(args[0]));
        depth.check();
        if (depth.wrong != 0) {
            System.exit(1);
        }
    }

    private void read(Path file) throws IOException {
        JavaCompiler compiler = ToolProvider.getSystemJavaCompiler();
        try (StandardJavaFileManager files = compiler.getStandardFileManager(null, null, null)) {
            JavacTask task = (JavacTask) compiler.getTask(null, files, null, null, null, files.getJavaFileObjects(file));
            Iterable<? extends CompilationUnitTree> units = task.parse();
            task.analyze();
            for (CompilationUnitTree unit : units) {
                new Calls(Trees.instance(task)).scan(unit, null);
            }
        }
    }

    /** Keeps for each method those of the same file that it calls. */
    private final class Calls extends TreePathScanner<Void, String> {
        private final Trees trees;

        private Calls(Trees trees) {
            this.trees = trees;
        }

        private String called() {
            Element element = trees.getElement(getCurrentPath());
            // What the library holds has no tree here.
            return element == null || trees.getPath(element) == null ? null
                    : element.getEnclosingElement().getSimpleName() + "." + element;
        }

        @Override
        public Void visitMethod(MethodTree method, String outer) {
            String name = called();
            if (name != null) {
                calls.computeIfAbsent(name, key -> new TreeSet<>());
            }
            return super.visitMethod(method, name);
        }

        @Override
        public Void visitMethodInvocation(MethodInvocationTree call, String caller) {
            keep(caller);
            return super.visitMethodInvocation(call, caller);
        }

        @Override
        public Void visitNewClass(NewClassTree call, String caller) {
            keep(caller);
            return super.visitNewClass(call, caller);
        }

        private void keep(String caller) {
            String called = called();
            if (caller != null && called != null) {
                calls.computeIfAbsent(caller, key -> new TreeSet<>()).add(called);
            }
        }
    }

    private void check() {
        List<String> longest = List.of();
        for (String method : calls.keySet()) {
            List<String> chain = chain(method);
            longest = chain.size() > longest.size() ? chain : longest;
        }
        fail(calls.size() < 100, "only " + calls.size() + " methods were found");
        fail(longest.size() > DEEPEST, "too deep: " + longest);
        System.out.println(calls.size() + " methods, whose calls go " + longest.size() + " deep: " + longest);
    }

    /** The longest chain of methods that begins with one. */
    private List<String> chain(String method) {
        if (deepest.containsKey(method)) {
            return deepest.get(method);
        }
        List<String> longest = List.of();
        if (open.add(method)) {
            for (String called : calls.getOrDefault(method, new TreeSet<>())) {
                List<String> chain = chain(called);
                longest = chain.size() > longest.size() ? chain : longest;
            }
            open.remove(method);
        } else {
            fail(true, method + " comes back to itself");
        }
        List<String> whole = new ArrayList<>(List.of(method));
        whole.addAll(longest);
        deepest.put(method, whole);
        return whole;
    }

    private void fail(boolean isWrong, String what) {
        if (isWrong) {
            wrong++;
            System.out.println(what);
        }
    }
}
