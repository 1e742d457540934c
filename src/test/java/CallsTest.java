import com.sun.source.tree.CompilationUnitTree;
import com.sun.source.tree.MethodInvocationTree;
import com.sun.source.tree.MethodTree;
import com.sun.source.tree.NewArrayTree;
import com.sun.source.tree.NewClassTree;
import com.sun.source.util.JavacTask;
import com.sun.source.util.TreePathScanner;
import com.sun.source.util.Trees;
import java.io.File;
import java.util.HashMap;
import java.util.HashSet;
import java.util.Map;
import java.util.Set;
import java.util.TreeSet;
import javax.lang.model.element.Element;
import javax.lang.model.element.ElementKind;
import javax.tools.JavaCompiler;
import javax.tools.StandardJavaFileManager;
import javax.tools.ToolProvider;

/** What LANGUAGE.md says of calls: how deep they go, what of the library they name, where objects are made. */
public final class CallsTest {
    private static final int DEEPEST = 8;
    private static final Set<String> LIBRARY = Set.of("Math.max", "Math.min", "Math.abs", "Integer.compare", "Long.compare",
        "Integer.numberOfTrailingZeros", "Arrays.fill", "System.arraycopy", "Object.<init>");
    private static final Map<Element, Set<Element>> calls = new HashMap<>();
    private static final Set<String> strange = new TreeSet<>();

    /** Notes who calls whom, and what is made or called that should not be. */
    private static final class Reader extends TreePathScanner<Void, Void> {
        private final Trees trees;
        private Element inside;

        Reader(Trees trees) {
            this.trees = trees;
        }

        private static String name(Element e) {
            return e.getEnclosingElement().getSimpleName() + "." + e.getSimpleName();
        }

        private void note(Element called) {
            boolean own = called.getEnclosingElement().toString().startsWith("FlungFingers");
            if (own && inside != null) {
                calls.get(inside).add(called);
            } else if (!own && !LIBRARY.contains(name(called))) {
                strange.add("a call of " + name(called));
            }
        }

        private void make() {
            if (inside != null) {
                strange.add("something is made in " + name(inside));
            }
        }

        @Override
        public Void visitMethod(MethodTree tree, Void unused) {
            Element outer = inside;
            inside = trees.getElement(getCurrentPath());
            calls.putIfAbsent(inside, new HashSet<>());
            super.visitMethod(tree, unused);
            inside = outer;
            return null;
        }

        @Override
        public Void visitMethodInvocation(MethodInvocationTree tree, Void unused) {
            note(trees.getElement(getCurrentPath()));
            return super.visitMethodInvocation(tree, unused);
        }

        @Override
        public Void visitNewClass(NewClassTree tree, Void unused) {
            make();
            return super.visitNewClass(tree, unused);
        }

        @Override
        public Void visitNewArray(NewArrayTree tree, Void unused) {
            make();
            return super.visitNewArray(tree, unused);
        }
    }

    private static int depth(Element method, Set<Element> open) {
        int deepest = 0;
        for (Element called : calls.getOrDefault(method, Set.of())) {
            if (open.add(called)) {
                deepest = Math.max(deepest, depth(called, open));
                open.remove(called);
            }
        }
        return deepest + 1;
    }

    public static void main(String[] args) throws Exception {
        JavaCompiler compiler = ToolProvider.getSystemJavaCompiler();
        try (StandardJavaFileManager files = compiler.getStandardFileManager(null, null, null)) {
            JavacTask task = (JavacTask) compiler.getTask(null, files, null, null, null,
                files.getJavaFileObjects(new File("src/main/java/FlungFingers.java")));
            Iterable<? extends CompilationUnitTree> units = task.parse();
            task.analyze();
            for (CompilationUnitTree unit : units) {
                new Reader(Trees.instance(task)).scan(unit, null);
            }
        }
        int deepest = 0;
        for (Element method : calls.keySet()) {
            int found = method.getKind() == ElementKind.METHOD ? depth(method, new HashSet<>(Set.of(method))) : 0;
            deepest = Math.max(deepest, found);
            if (found > DEEPEST) {
                strange.add(method + " goes " + found + " deep");
            }
        }
        strange.forEach(System.out::println);
        System.out.println("calls go " + deepest + " deep");
        if (!strange.isEmpty() || calls.size() < 100) {
            System.exit(1);
        }
    }
}
