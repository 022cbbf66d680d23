import com.sun.source.tree.ClassTree;
import com.sun.source.tree.CompilationUnitTree;
import com.sun.source.tree.MethodInvocationTree;
import com.sun.source.tree.MethodTree;
import com.sun.source.tree.NewClassTree;
import com.sun.source.tree.Tree;
import com.sun.source.util.JavacTask;
import com.sun.source.util.TreePath;
import com.sun.source.util.TreePathScanner;
import com.sun.source.util.Trees;
import java.io.IOException;
import java.nio.file.Path;
import java.util.ArrayList;
import java.util.LinkedHashMap;
import java.util.LinkedHashSet;
import java.util.List;
import java.util.Map;
import java.util.Set;
import javax.lang.model.element.Element;
import javax.tools.JavaCompiler;
import javax.tools.StandardJavaFileManager;
import javax.tools.ToolProvider;

/** Rules 8 and 11 of LANGUAGE.md: no method comes back to itself, and calls go at most eight deep. */
public final class CallDepthTest {
    private static final int DEEPEST = 8;

    /** Who calls whom; the library's functions are called too, but call nothing here. */
    private final Map<String, Set<String>> calls = new LinkedHashMap<>();
    private final Map<String, List<String>> longest = new LinkedHashMap<>();
    private int wrong = 0;

    public static void main(String[] args) throws IOException {
        CallDepthTest test = new CallDepthTest();
        test.read(Path.of(args[0], "src/main/java/NeighbourBoard.java"));
        List<String> deepest = List.of();
        for (String method : test.calls.keySet()) {
            List<String> chain = test.longestFrom(method, new ArrayList<>());
            if (chain.size() > deepest.size()) deepest = chain;
        }
        System.out.println("of " + test.calls.size() + " methods the deepest calls: " + deepest);
        if (test.wrong != 0 || deepest.size() > DEEPEST || deepest.size() < 2) {
            System.out.println("that breaks the rules, or nothing was found");
            System.exit(1);
        }
    }

    private void read(Path source) throws IOException {
        JavaCompiler compiler = ToolProvider.getSystemJavaCompiler();
        try (StandardJavaFileManager files = compiler.getStandardFileManager(null, null, null)) {
            JavacTask task = (JavacTask) compiler.getTask(null, files, null, List.of("-proc:none"), null,
                files.getJavaFileObjects(source));
            Iterable<? extends CompilationUnitTree> units = task.parse();
            task.analyze();
            Trees trees = Trees.instance(task);
            for (CompilationUnitTree unit : units) new Reader(trees).scan(unit, null);
        }
    }

    private List<String> longestFrom(String method, List<String> open) {
        if (open.contains(method)) {
            wrong++;
            System.out.println(method + " comes back to itself: " + open);
            return List.of();
        }
        List<String> known = longest.get(method);
        if (known != null) return known;
        List<String> path = new ArrayList<>(open);
        path.add(method);
        List<String> below = List.of();
        for (String called : calls.getOrDefault(method, Set.of())) {
            List<String> chain = longestFrom(called, path);
            if (chain.size() > below.size()) below = chain;
        }
        List<String> all = new ArrayList<>(List.of(method));
        all.addAll(below);
        longest.put(method, all);
        return all;
    }

    private final class Reader extends TreePathScanner<Void, Void> {
        private final Trees trees;

        Reader(Trees trees) {
            this.trees = trees;
        }

        @Override
        public Void visitMethod(MethodTree method, Void none) {
            calls.computeIfAbsent(name(getCurrentPath()), m -> new LinkedHashSet<>());
            return super.visitMethod(method, none);
        }

        @Override
        public Void visitMethodInvocation(MethodInvocationTree call, Void none) {
            note();
            return super.visitMethodInvocation(call, none);
        }

        @Override
        public Void visitNewClass(NewClassTree made, Void none) {
            note();
            return super.visitNewClass(made, none);
        }

        private void note() {
            String called = name(getCurrentPath());
            // What stands in a field's initialiser is run by the constructors of its class.
            for (String caller : callers()) {
                calls.computeIfAbsent(caller, m -> new LinkedHashSet<>()).add(called);
            }
        }

        private List<String> callers() {
            for (TreePath path = getCurrentPath(); path != null; path = path.getParentPath()) {
                if (path.getLeaf().getKind() == Tree.Kind.METHOD) return List.of(name(path));
                if (path.getLeaf() instanceof ClassTree) return constructors(path);
            }
            return List.of();
        }

        private List<String> constructors(TreePath path) {
            List<String> found = new ArrayList<>();
            for (Tree member : ((ClassTree) path.getLeaf()).getMembers()) {
                TreePath inside = new TreePath(path, member);
                boolean method = member instanceof MethodTree;
                if (method && ((MethodTree) member).getName().contentEquals("<init>")) found.add(name(inside));
            }
            return found;
        }

        private String name(TreePath path) {
            Element element = trees.getElement(path);
            return element == null ? path.getLeaf().toString() : element.getEnclosingElement() + "." + element;
        }
    }
}
