import com.sun.source.tree.CompilationUnitTree;
import com.sun.source.tree.MethodInvocationTree;
import com.sun.source.tree.MethodTree;
import com.sun.source.tree.NewClassTree;
import com.sun.source.util.JavacTask;
import com.sun.source.util.TreePathScanner;
import com.sun.source.util.Trees;
import java.nio.file.Path;
import java.util.ArrayList;
import java.util.HashMap;
import java.util.List;
import java.util.Map;
import java.util.Set;
import java.util.TreeMap;
import java.util.TreeSet;
import javax.lang.model.element.Element;
import javax.tools.JavaCompiler;
import javax.tools.StandardJavaFileManager;
import javax.tools.ToolProvider;

/** Which method of a source calls which, as the compiler sees them; calls of the library count, too. */
final class CallGraph {
    private final Map<String, Set<String>> calls = new TreeMap<>();
    private final Map<String, List<String>> deepestFrom = new HashMap<>();

    private CallGraph() {
    }

    static CallGraph of(Path source) throws Exception {
        CallGraph graph = new CallGraph();
        JavaCompiler compiler = ToolProvider.getSystemJavaCompiler();
        try (StandardJavaFileManager files = compiler.getStandardFileManager(null, null, null)) {
            JavacTask task = (JavacTask) compiler.getTask(null, files, null, List.of("-proc:none"), null,
                files.getJavaFileObjects(source));
            Iterable<? extends CompilationUnitTree> units = task.parse();
            task.analyze();
            Scanner scanner = graph.new Scanner(Trees.instance(task));
            for (CompilationUnitTree unit : units) {
                scanner.scan(unit, null);
            }
        }
        return graph;
    }

    private static String nameOf(Element method) {
        return method.getEnclosingElement().getSimpleName() + "." + method.getSimpleName();
    }

    private final class Scanner extends TreePathScanner<Void, Void> {
        private final Trees trees;
        private Set<String> now = new TreeSet<>();

        Scanner(Trees trees) {
            this.trees = trees;
        }

        @Override
        public Void visitMethod(MethodTree tree, Void none) {
            Set<String> around = now;
            now = calls.computeIfAbsent(nameOf(trees.getElement(getCurrentPath())), name -> new TreeSet<>());
            super.visitMethod(tree, none);
            now = around;
            return null;
        }

        @Override
        public Void visitMethodInvocation(MethodInvocationTree tree, Void none) {
            now.add(nameOf(trees.getElement(getCurrentPath())));
            return super.visitMethodInvocation(tree, none);
        }

        @Override
        public Void visitNewClass(NewClassTree tree, Void none) {
            now.add(nameOf(trees.getElement(getCurrentPath())));
            return super.visitNewClass(tree, none);
        }
    }

    int size() {
        return calls.size();
    }

    private Set<String> reachedFrom(String method) {
        Set<String> reached = new TreeSet<>();
        List<String> open = new ArrayList<>(calls.getOrDefault(method, Set.of()));
        while (!open.isEmpty()) {
            String one = open.remove(open.size() - 1);
            if (reached.add(one)) {
                open.addAll(calls.getOrDefault(one, Set.of()));
            }
        }
        return reached;
    }

    Set<String> recursive() {
        Set<String> found = new TreeSet<>();
        for (String method : calls.keySet()) {
            if (reachedFrom(method).contains(method)) {
                found.add(method);
            }
        }
        return found;
    }

    /** The longest chain of calls; methods that call one another count as one. */
    List<String> deepest() {
        List<String> deepest = List.of();
        Set<String> recursive = recursive();
        for (String method : calls.keySet()) {
            List<String> chain = deepestFrom(method, recursive);
            deepest = chain.size() > deepest.size() ? chain : deepest;
        }
        return deepest;
    }

    private List<String> deepestFrom(String method, Set<String> recursive) {
        if (deepestFrom.containsKey(method)) {
            return deepestFrom.get(method);
        }
        Set<String> next = new TreeSet<>(calls.getOrDefault(method, Set.of()));
        if (recursive.contains(method)) {
            for (String other : reachedFrom(method)) {
                next.addAll(recursive.contains(other) ? calls.getOrDefault(other, Set.of()) : Set.of());
            }
            next.removeAll(recursive);
        }
        List<String> below = List.of();
        for (String one : next) {
            List<String> chain = deepestFrom(one, recursive);
            below = chain.size() > below.size() ? chain : below;
        }
        List<String> chain = new ArrayList<>(List.of(method));
        chain.addAll(below);
        deepestFrom.put(method, chain);
        return chain;
    }
}
