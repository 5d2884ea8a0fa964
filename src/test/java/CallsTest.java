import com.sun.source.tree.ClassTree;
import com.sun.source.tree.CompilationUnitTree;
import com.sun.source.tree.MethodInvocationTree;
import com.sun.source.tree.MethodTree;
import com.sun.source.tree.NewClassTree;
import com.sun.source.util.JavacTask;
import com.sun.source.util.TreePathScanner;
import com.sun.source.util.Trees;
import java.io.IOException;
import java.nio.file.Path;
import java.util.ArrayList;
import java.util.List;
import java.util.Map;
import java.util.Set;
import java.util.TreeMap;
import java.util.TreeSet;
import javax.lang.model.element.ExecutableElement;
import javax.lang.model.element.Modifier;
import javax.lang.model.element.TypeElement;
import javax.lang.model.util.Elements;
import javax.tools.JavaCompiler;
import javax.tools.StandardJavaFileManager;
import javax.tools.ToolProvider;

/**
 * Which methods call which, as the compiler itself reads the class, held against LANGUAGE.md: the
 * library's methods (rule 4), which methods are recursions (rule 8), and how deep calls go (rule 11).
 */
public final class CallsTest {
    private static final int DEEPEST = 8;
    // By class, what rule 4 lists of it; '*' is any but those whose name ends in Exact.
    private static final Map<String, Set<String>> LIBRARY = Map.ofEntries(
        Map.entry("java.lang.String", Set.of("length", "charAt", "isEmpty", "equals", "indexOf", "substring", "toCharArray",
            "<init>")),
        Map.entry("java.lang.StringBuilder", Set.of("<init>", "append", "charAt", "setCharAt", "setLength", "deleteCharAt",
            "reverse", "length", "toString")),
        Map.entry("java.util.ArrayList", Set.of("<init>", "add", "get", "set", "remove", "size", "isEmpty", "clear")),
        Map.entry("java.util.List", Set.of("of", "add", "get", "set", "remove", "size", "isEmpty", "clear")),
        Map.entry("java.lang.Integer", Set.of("*")),
        Map.entry("java.lang.Long", Set.of("*")),
        Map.entry("java.lang.Math", Set.of("*")),
        Map.entry("java.lang.System", Set.of("arraycopy")),
        Map.entry("java.util.Arrays", Set.of("copyOf", "copyOfRange", "fill")),
        Map.entry("java.lang.Object", Set.of("<init>", "clone")),
        Map.entry("java.lang.Enum", Set.of("<init>")),
        Map.entry("java.lang.Record", Set.of("<init>")));
    // What a NODE does with its parts; all else must be free of recursion.
    private static final Set<String> RECURSIONS = Set.of("done", "goThrough", "findWays", "choose", "goOnThroughLast");

    private final Map<String, Set<String>> calls = new TreeMap<>();
    private final Map<String, Set<String>> reached = new TreeMap<>();
    private final Map<String, Integer> depths = new TreeMap<>();
    private final Map<String, String> deepestNext = new TreeMap<>();
    private final Set<String> faces = new TreeSet<>();
    private final Set<String> own = new TreeSet<>();

    public static void main(String[] args) throws IOException {
        CallsTest test = new CallsTest();
        test.read();
        test.libraryIsListed();
        test.recursionsAreNodes();
        test.callsStayFlat();
        Check.end();
    }

    private void read() throws IOException {
        JavaCompiler compiler = ToolProvider.getSystemJavaCompiler();
        try (StandardJavaFileManager files = compiler.getStandardFileManager(null, null, null)) {
            JavacTask task = (JavacTask) compiler.getTask(null, files, null, List.of("-proc:none"), null,
                files.getJavaFileObjects(Path.of("src/main/java/ThrowReports.java")));
            Iterable<? extends CompilationUnitTree> units = task.parse();
            task.analyze();
            Scanner scanner = new Scanner(Trees.instance(task), task.getElements());
            for (CompilationUnitTree unit : units) {
                scanner.scan(unit, null);
            }
            scanner.addOverriders();
        }
        Check.holds("the face was read", faces.size() == 20);
    }

    private static String named(ExecutableElement method) {
        return ((TypeElement) method.getEnclosingElement()).getQualifiedName() + "." + method.getSimpleName();
    }

    private static String simple(String method) {
        return method.substring(method.lastIndexOf('.') + 1);
    }

    private final class Scanner extends TreePathScanner<Void, Void> {
        private final Trees trees;
        private final Elements elements;
        private final List<ExecutableElement> methods = new ArrayList<>();
        private final Map<String, Set<String>> callsOfSuper = new TreeMap<>();
        private String caller = "fields";

        Scanner(Trees trees, Elements elements) {
            this.trees = trees;
            this.elements = elements;
        }

        @Override
        public Void visitMethod(MethodTree tree, Void none) {
            ExecutableElement method = (ExecutableElement) trees.getElement(getCurrentPath());
            methods.add(method);
            String before = caller;
            caller = named(method);
            own.add(caller);
            calls.computeIfAbsent(caller, key -> new TreeSet<>());
            if (method.getModifiers().contains(Modifier.PUBLIC)) {
                faces.add(caller);
            }
            super.visitMethod(tree, none);
            caller = before;
            return null;
        }

        @Override
        public Void visitClass(ClassTree tree, Void none) {
            String before = caller;
            // What fields begin with is done by the constructor.
            caller = ((TypeElement) trees.getElement(getCurrentPath())).getQualifiedName() + ".<init>";
            calls.computeIfAbsent(caller, key -> new TreeSet<>());
            super.visitClass(tree, none);
            caller = before;
            return null;
        }

        @Override
        public Void visitMethodInvocation(MethodInvocationTree tree, Void none) {
            if (tree.getMethodSelect().toString().startsWith("super.")) {
                callsOfSuper.computeIfAbsent(caller, key -> new TreeSet<>()).add(elementNamed());
            } else {
                calls.get(caller).add(elementNamed());
            }
            return super.visitMethodInvocation(tree, none);
        }

        @Override
        public Void visitNewClass(NewClassTree tree, Void none) {
            calls.get(caller).add(elementNamed());
            return super.visitNewClass(tree, none);
        }

        private String elementNamed() {
            return named((ExecutableElement) trees.getElement(getCurrentPath()));
        }

        /** A call of a method of NODES may be one of any class that has its own, but for those by 'super'. */
        void addOverriders() {
            for (ExecutableElement one : methods) {
                for (ExecutableElement other : methods) {
                    if (elements.overrides(one, other, (TypeElement) one.getEnclosingElement())) {
                        addWhere(named(other), named(one));
                    }
                }
            }
            callsOfSuper.forEach((method, called) -> calls.get(method).addAll(called));
        }

        private void addWhere(String called, String more) {
            for (Set<String> some : calls.values()) {
                if (some.contains(called)) {
                    some.add(more);
                }
            }
        }
    }

    private void libraryIsListed() {
        for (Map.Entry<String, Set<String>> entry : calls.entrySet()) {
            for (String called : entry.getValue()) {
                Check.holds(entry.getKey() + " calls " + called + ", which LANGUAGE.md lists",
                    calls.containsKey(called) || isListed(called));
            }
        }
    }

    private static boolean isListed(String method) {
        Set<String> listed = LIBRARY.getOrDefault(method.substring(0, method.lastIndexOf('.')), Set.of());
        return listed.contains(simple(method)) || listed.contains("*") && !method.endsWith("Exact");
    }

    private Set<String> reachedFrom(String method) {
        Set<String> known = reached.get(method);
        if (known != null) {
            return known;
        }
        Set<String> found = new TreeSet<>();
        List<String> open = new ArrayList<>(calls.getOrDefault(method, Set.of()));
        while (!open.isEmpty()) {
            String next = open.remove(open.size() - 1);
            if (found.add(next)) {
                open.addAll(calls.getOrDefault(next, Set.of()));
            }
        }
        reached.put(method, found);
        return found;
    }

    private boolean isOneRecursion(String one, String other) {
        return reachedFrom(one).contains(other) && reachedFrom(other).contains(one);
    }

    private void recursionsAreNodes() {
        for (String method : own) {
            Check.holds(method + " is a recursion over NODES or none",
                !isOneRecursion(method, method) || RECURSIONS.contains(simple(method)));
        }
    }

    /** How many calls stand open at most, those of one recursion as one. */
    private int depthOf(String method) {
        Integer known = depths.get(method);
        if (known != null) {
            return known;
        }
        int deepest = 0;
        for (String called : reachedFromRecursion(method)) {
            int depth = depthOf(called);
            if (depth > deepest) {
                deepest = depth;
                deepestNext.put(method, called);
            }
        }
        depths.put(method, 1 + deepest);
        return 1 + deepest;
    }

    /** What a method calls, or one of those that are one recursion with it, outside of that. */
    private Set<String> reachedFromRecursion(String method) {
        Set<String> found = new TreeSet<>(calls.getOrDefault(method, Set.of()));
        for (String other : reachedFrom(method)) {
            if (isOneRecursion(method, other)) {
                found.addAll(calls.getOrDefault(other, Set.of()));
            }
        }
        found.removeIf(called -> called.equals(method) || isOneRecursion(method, called));
        return found;
    }

    private void callsStayFlat() {
        for (String face : faces) {
            int depth = depthOf(face);
            StringBuilder way = new StringBuilder(simple(face));
            for (String next = deepestNext.get(face); next != null; next = deepestNext.get(next)) {
                way.append(" > ").append(next.substring(next.indexOf('.') + 1));
            }
            Check.holds(way + " is " + depth + " deep, at most " + DEEPEST + " are", depth <= DEEPEST);
        }
    }
}
