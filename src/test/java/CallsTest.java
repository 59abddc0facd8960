import com.sun.source.tree.ClassTree;
import com.sun.source.tree.CompilationUnitTree;
import com.sun.source.tree.DoWhileLoopTree;
import com.sun.source.tree.ForLoopTree;
import com.sun.source.tree.LiteralTree;
import com.sun.source.tree.MethodInvocationTree;
import com.sun.source.tree.MethodTree;
import com.sun.source.tree.NewClassTree;
import com.sun.source.tree.Tree;
import com.sun.source.tree.WhileLoopTree;
import com.sun.source.util.JavacTask;
import com.sun.source.util.TreePathScanner;
import com.sun.source.util.Trees;
import java.io.IOException;
import java.nio.file.Path;
import java.util.List;
import java.util.Map;
import java.util.Set;
import java.util.TreeMap;
import java.util.TreeSet;
import javax.lang.model.element.Element;
import javax.lang.model.element.ElementKind;
import javax.lang.model.element.ExecutableElement;
import javax.lang.model.element.Modifier;
import javax.tools.JavaCompiler;
import javax.tools.StandardJavaFileManager;
import javax.tools.ToolProvider;

/** What can be seen of ../shared/LANGUAGE.md by looking at who calls whom: rules 4, 8, 9, 11, 12. */
public final class CallsTest {
    private static final Set<String> LIBRARY = Set.of("length", "charAt", "isEmpty", "max", "min", "abs", "bitCount", "floorDiv",
        "floorMod", "compare", "arraycopy", "fill", "copyOf", "copyOfRange");

    private final Map<String, Set<String>> calls = new TreeMap<>();
    private final Map<String, Boolean> isPrivate = new TreeMap<>();

    public static void main(String[] args) throws IOException {
        CallsTest test = new CallsTest();
        test.read();
        test.recursion();
        test.depth();
        Office.end();
    }

    private void read() throws IOException {
        JavaCompiler compiler = ToolProvider.getSystemJavaCompiler();
        try (StandardJavaFileManager files = compiler.getStandardFileManager(null, null, null)) {
            JavacTask task = (JavacTask) compiler.getTask(null, files, null, List.of("-proc:none"), null,
                files.getJavaFileObjects(Path.of("src/main/java/UnlikeLoaves.java")));
            Iterable<? extends CompilationUnitTree> units = task.parse();
            task.analyze();
            for (CompilationUnitTree unit : units) {
                new Reader(Trees.instance(task)).scan(unit, null);
            }
        }
        Office.due("methods found, " + calls.size(), calls.size() > 100, true);
    }

    private final class Reader extends TreePathScanner<Void, Void> {
        private final Trees trees;
        private String method = "none";

        Reader(Trees trees) {
            this.trees = trees;
        }

        @Override
        public Void visitClass(ClassTree tree, Void nothing) {
            String before = method;
            method = tree.getSimpleName() + ".<fields>";
            calls.putIfAbsent(method, new TreeSet<>());
            super.visitClass(tree, nothing);
            method = before;
            return null;
        }

        @Override
        public Void visitMethod(MethodTree tree, Void nothing) {
            String before = method;
            Element element = trees.getElement(getCurrentPath());
            method = nameOf(element);
            Office.due(method + " stands once", calls.putIfAbsent(method, new TreeSet<>()) == null, true);
            isPrivate.put(method, element.getModifiers().contains(Modifier.PRIVATE));
            super.visitMethod(tree, nothing);
            method = before;
            return null;
        }

        private String nameOf(Element element) {
            return element.getEnclosingElement().getSimpleName() + "." + element.getSimpleName();
        }

        @Override
        public Void visitMethodInvocation(MethodInvocationTree tree, Void nothing) {
            Element element = trees.getElement(getCurrentPath());
            boolean own = element.getEnclosingElement().toString().startsWith("UnlikeLoaves");
            boolean constructor = element.getKind() == ElementKind.CONSTRUCTOR;
            if (own) {
                calls.get(method).add(nameOf(element));
            } else {
                Office.due(method + " calls " + element, constructor || LIBRARY.contains(element.getSimpleName().toString()), true);
                Office.due(method + " calls what can throw, " + element, ((ExecutableElement) element).getThrownTypes().isEmpty(), true);
            }
            return super.visitMethodInvocation(tree, nothing);
        }

        @Override
        public Void visitNewClass(NewClassTree tree, Void nothing) {
            Element element = trees.getElement(getCurrentPath());
            Office.due(method + " makes " + tree, element.getEnclosingElement().toString().startsWith("UnlikeLoaves"), true);
            calls.get(method).add(nameOf(element));
            return super.visitNewClass(tree, nothing);
        }

        @Override
        public Void visitForLoop(ForLoopTree tree, Void nothing) {
            Office.due(method + " has a for without an end", tree.getCondition() != null, true);
            return super.visitForLoop(tree, nothing);
        }

        @Override
        public Void visitWhileLoop(WhileLoopTree tree, Void nothing) {
            Office.due(method + " has a while without an end", isAlwaysTrue(tree.getCondition()), false);
            return super.visitWhileLoop(tree, nothing);
        }

        @Override
        public Void visitDoWhileLoop(DoWhileLoopTree tree, Void nothing) {
            Office.due(method + " has a do without an end", isAlwaysTrue(tree.getCondition()), false);
            return super.visitDoWhileLoop(tree, nothing);
        }

        private boolean isAlwaysTrue(Tree condition) {
            return condition.toString().equals("(true)") || condition instanceof LiteralTree;
        }
    }

    /** All that can be called from here, by however many steps. */
    private Set<String> reach(String from) {
        Set<String> all = new TreeSet<>();
        collect(from, all);
        return all;
    }

    private void collect(String from, Set<String> all) {
        for (String to : calls.getOrDefault(from, Set.of())) {
            if (all.add(to)) {
                collect(to, all);
            }
        }
    }

    /** Rule 8: what comes back to itself is private, and it is only what a document's limit keeps low. */
    private void recursion() {
        Set<String> found = new TreeSet<>();
        for (String method : calls.keySet()) {
            if (reach(method).contains(method)) {
                found.add(method);
                Office.due(method + " is private", isPrivate.getOrDefault(method, false), true);
            }
        }
        Set<String> known = Set.of("Phrases.test", "Phrases.both", "Phrases.fact", "Phrases.sum", "Phrases.product", "Phrases.part",
            "Phrases.pair", "Finder.search", "Outlook.seat");
        Office.due("what calls itself: " + found, found.equals(known), true);
    }

    /** Rule 11: eight deep at the most, what calls one another being one. */
    private void depth() {
        for (String method : calls.keySet()) {
            int deep = depthOf(method);
            Office.due(method + " goes " + deep + " deep", deep <= 8, true);
        }
    }

    private int depthOf(String method) {
        Set<String> ring = new TreeSet<>(Set.of(method));
        for (String other : reach(method)) {
            if (reach(other).contains(method)) {
                ring.add(other);
            }
        }
        int deepest = 0;
        for (String member : ring) {
            for (String to : calls.getOrDefault(member, Set.of())) {
                if (!ring.contains(to)) {
                    deepest = Math.max(deepest, depthOf(to));
                }
            }
        }
        return deepest + 1;
    }
}
