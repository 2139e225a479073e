import com.sun.source.tree.ClassTree;
import com.sun.source.tree.CompilationUnitTree;
import com.sun.source.tree.DoWhileLoopTree;
import com.sun.source.tree.EnhancedForLoopTree;
import com.sun.source.tree.ForLoopTree;
import com.sun.source.tree.MethodInvocationTree;
import com.sun.source.tree.MethodTree;
import com.sun.source.tree.NewArrayTree;
import com.sun.source.tree.NewClassTree;
import com.sun.source.tree.WhileLoopTree;
import com.sun.source.util.JavacTask;
import com.sun.source.util.TreePathScanner;
import com.sun.source.util.Trees;
import java.nio.file.Path;
import java.util.ArrayList;
import java.util.HashSet;
import java.util.LinkedHashMap;
import java.util.LinkedHashSet;
import java.util.List;
import java.util.Map;
import java.util.Set;
import java.util.regex.Pattern;
import javax.lang.model.element.Element;
import javax.lang.model.element.Modifier;
import javax.tools.JavaCompiler;
import javax.tools.StandardJavaFileManager;
import javax.tools.ToolProvider;

/** What calls what in the source, as the compiler reads it: rules 4, 8, 11 and 12 of LANGUAGE.md. */
public final class CallsTest {
    private static final int DEEPEST = 8;
    private static final Pattern LIBRARY = Pattern.compile(
        "String\\.(length|charAt|isEmpty|equals|indexOf|substring|toCharArray)|System\\.arraycopy|Arrays\\.(copyOf|copyOfRange|fill)"
            + "|(Integer|Long|Math)\\.(?!\\w*Exact$)\\w+|(NoSuchElementException|Object)\\.<init>");

    private final Map<Element, Set<Element>> calls = new LinkedHashMap<>();
    private final Set<Element> own = new HashSet<>();
    private final List<String> wrong = new ArrayList<>();
    private Trees trees;

    public static void main(String[] args) throws Exception {
        CallsTest test = new CallsTest();
        test.read(Path.of(args.length > 0 ? args[0] : "src/main/java/MoreThanHalf.java"));
        int deepest = test.deepestOfFace();
        test.recursionIsPrivate();
        test.libraryIsListed();
        for (String what : test.wrong) {
            System.out.println("CallsTest: " + what);
        }
        System.out.println("CallsTest: " + test.own.size() + " methods, calls go " + deepest + " deep, " + test.wrong.size() + " wrong");
        if (deepest < 2 || !test.wrong.isEmpty()) {
            System.exit(1);
        }
    }

    private void read(Path source) throws Exception {
        JavaCompiler compiler = ToolProvider.getSystemJavaCompiler();
        try (StandardJavaFileManager files = compiler.getStandardFileManager(null, null, null)) {
            JavacTask task = (JavacTask) compiler.getTask(null, files, null, List.of("-proc:none"), null, files.getJavaFileObjects(source));
            trees = Trees.instance(task);
            Iterable<? extends CompilationUnitTree> units = task.parse();
            task.analyze();
            for (CompilationUnitTree unit : units) {
                new Reader().scan(unit, null);
            }
        }
    }

    private final class Reader extends TreePathScanner<Void, Void> {
        private Element method;
        private int loops;

        @Override
        public Void visitMethod(MethodTree tree, Void nothing) {
            Element around = method;
            method = trees.getElement(getCurrentPath());
            own.add(method);
            super.visitMethod(tree, null);
            method = around;
            return null;
        }

        @Override
        public Void visitMethodInvocation(MethodInvocationTree tree, Void nothing) {
            note(trees.getElement(getCurrentPath()));
            return super.visitMethodInvocation(tree, null);
        }

        @Override
        public Void visitNewClass(NewClassTree tree, Void nothing) {
            note(trees.getElement(getCurrentPath()));
            noteNew(tree.toString());
            return super.visitNewClass(tree, null);
        }

        @Override
        public Void visitNewArray(NewArrayTree tree, Void nothing) {
            noteNew(tree.toString());
            return super.visitNewArray(tree, null);
        }

        @Override
        public Void visitForLoop(ForLoopTree tree, Void nothing) {
            loops++;
            super.visitForLoop(tree, null);
            loops--;
            return null;
        }

        @Override
        public Void visitEnhancedForLoop(EnhancedForLoopTree tree, Void nothing) {
            loops++;
            super.visitEnhancedForLoop(tree, null);
            loops--;
            return null;
        }

        @Override
        public Void visitWhileLoop(WhileLoopTree tree, Void nothing) {
            loops++;
            super.visitWhileLoop(tree, null);
            loops--;
            return null;
        }

        @Override
        public Void visitDoWhileLoop(DoWhileLoopTree tree, Void nothing) {
            loops++;
            super.visitDoWhileLoop(tree, null);
            loops--;
            return null;
        }

        @Override
        public Void visitClass(ClassTree tree, Void nothing) {
            Element around = method;
            method = null;
            super.visitClass(tree, null);
            method = around;
            return null;
        }

        // Calls outside a method are those of fields: an object is made, and no call of the face leads there.
        private void note(Element called) {
            if (method != null) {
                calls.computeIfAbsent(method, m -> new LinkedHashSet<>()).add(called);
            }
        }

        private void noteNew(String what) {
            if (loops > 0) {
                wrong.add("12: in a loop of " + name(method) + " is made: " + what);
            }
        }
    }

    private static String name(Element element) {
        return element == null ? "a class" : element.getEnclosingElement().getSimpleName() + "." + element.getSimpleName();
    }

    private Set<Element> calledBy(Element method) {
        return calls.getOrDefault(method, Set.of());
    }

    private int deepestOfFace() {
        int deepest = 0;
        for (Element method : own) {
            if (method.getModifiers().contains(Modifier.PUBLIC)) {
                List<String> chain = longest(method, new HashSet<>());
                deepest = Math.max(deepest, chain.size());
                if (chain.size() > DEEPEST) {
                    wrong.add("11: calls go " + chain.size() + " deep: " + String.join(", ", chain));
                }
            }
        }
        return deepest;
    }

    // None twice: what comes behind the second time would be recursion.
    private List<String> longest(Element method, Set<Element> open) {
        open.add(method);
        List<String> most = List.of();
        for (Element called : calledBy(method)) {
            if (own.contains(called) && !open.contains(called)) {
                List<String> chain = longest(called, open);
                most = chain.size() > most.size() ? chain : most;
            }
        }
        open.remove(method);
        List<String> with = new ArrayList<>(List.of(name(method)));
        with.addAll(most);
        return with;
    }

    private void recursionIsPrivate() {
        for (Element method : own) {
            Set<Element> reached = new HashSet<>();
            List<Element> left = new ArrayList<>(calledBy(method));
            while (!left.isEmpty()) {
                Element next = left.remove(left.size() - 1);
                if (reached.add(next)) {
                    left.addAll(calledBy(next));
                }
            }
            if (reached.contains(method) && !method.getModifiers().contains(Modifier.PRIVATE)) {
                wrong.add("8: " + name(method) + " calls itself and is not private");
            }
        }
    }

    private void libraryIsListed() {
        for (Map.Entry<Element, Set<Element>> entry : calls.entrySet()) {
            for (Element called : entry.getValue()) {
                if (!own.contains(called) && !LIBRARY.matcher(name(called)).matches()) {
                    wrong.add("4: " + name(entry.getKey()) + " calls " + name(called));
                }
            }
        }
    }
}
