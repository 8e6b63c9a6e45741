import com.sun.source.tree.ClassTree;
import com.sun.source.tree.CompilationUnitTree;
import com.sun.source.tree.IdentifierTree;
import com.sun.source.tree.MemberSelectTree;
import com.sun.source.tree.MethodTree;
import com.sun.source.tree.NewArrayTree;
import com.sun.source.tree.NewClassTree;
import com.sun.source.tree.Tree;
import com.sun.source.util.JavacTask;
import com.sun.source.util.TreePathScanner;
import com.sun.source.util.Trees;
import java.io.IOException;
import java.nio.file.Path;
import java.util.ArrayDeque;
import java.util.Deque;
import java.util.HashMap;
import java.util.List;
import java.util.Map;
import java.util.Set;
import java.util.TreeMap;
import java.util.TreeSet;
import javax.lang.model.element.Element;
import javax.lang.model.element.ElementKind;
import javax.tools.JavaCompiler;
import javax.tools.StandardJavaFileManager;
import javax.tools.ToolProvider;

/** The rules of LANGUAGE.md about the library (4), recursion (8), depth (11) and new objects (12), by the compiler. */
public final class CallsTest extends TreePathScanner<Void, Void> {
    private static final int DEEPEST = 8;
    /** Of what rule 4 lists, what the class needs; its list may grow here with the class. */
    private static final Set<String> LIBRARY = Set.of("java.lang.Math.min", "java.lang.Math.max",
            "java.lang.System.arraycopy", "java.util.Arrays.fill", "java.lang.String.length",
            "java.lang.String.charAt", "java.lang.Object.<init>");

    private final Trees trees;
    private final Map<String, Set<String>> calls = new TreeMap<>();
    private final Map<String, Integer> depths = new HashMap<>();
    private final Deque<String> open = new ArrayDeque<>();
    private String method = "";

    private CallsTest(Trees trees) {
        this.trees = trees;
    }

    public static void main(String[] args) throws IOException {
        Path file = Path.of(System.getProperty("project.root", "."), "src/main/java/DeliveryRound.java");
        JavaCompiler compiler = ToolProvider.getSystemJavaCompiler();
        try (StandardJavaFileManager files = compiler.getStandardFileManager(null, null, null)) {
            JavacTask task = (JavacTask) compiler.getTask(null, files, null, List.of("-proc:none"), null,
                    files.getJavaFileObjects(file));
            Iterable<? extends CompilationUnitTree> units = task.parse();
            task.analyze();
            CallsTest test = new CallsTest(Trees.instance(task));
            test.scan(units, null);
            test.checkDepths();
        }
        Check.end();
    }

    private void checkDepths() {
        Check.due("the class has methods", calls.size() > 40, true);
        for (String caller : calls.keySet()) {
            Check.due("calls are few enough below " + caller, depth(caller) <= DEEPEST, true);
        }
    }

    private int depth(String caller) {
        Integer known = depths.get(caller);
        if (known != null) {
            return known;
        }
        Check.due(caller + " calls itself by way of " + open, open.contains(caller), false);
        if (open.contains(caller)) {
            return 0;
        }
        open.push(caller);
        int deepest = 0;
        for (String called : calls.getOrDefault(caller, Set.of())) {
            deepest = Math.max(deepest, depth(called));
        }
        open.pop();
        depths.put(caller, deepest + 1);
        return deepest + 1;
    }

    @Override
    public Void visitMethod(MethodTree tree, Void nothing) {
        String outer = method;
        method = name(trees.getElement(getCurrentPath()));
        calls.putIfAbsent(method, new TreeSet<>());
        super.visitMethod(tree, nothing);
        method = outer;
        return null;
    }

    @Override
    public Void visitClass(ClassTree tree, Void nothing) {
        String outer = method;
        // Outside its methods, a class makes the rows of its new objects.
        method = trees.getElement(getCurrentPath()) + ".<init>";
        calls.putIfAbsent(method, new TreeSet<>());
        super.visitClass(tree, nothing);
        method = outer;
        return null;
    }

    @Override
    public Void visitNewClass(NewClassTree tree, Void nothing) {
        made(tree);
        used(trees.getElement(getCurrentPath()));
        return super.visitNewClass(tree, nothing);
    }

    @Override
    public Void visitNewArray(NewArrayTree tree, Void nothing) {
        made(tree);
        return super.visitNewArray(tree, nothing);
    }

    @Override
    public Void visitIdentifier(IdentifierTree tree, Void nothing) {
        used(trees.getElement(getCurrentPath()));
        return super.visitIdentifier(tree, nothing);
    }

    @Override
    public Void visitMemberSelect(MemberSelectTree tree, Void nothing) {
        used(trees.getElement(getCurrentPath()));
        return super.visitMemberSelect(tree, nothing);
    }

    private void made(Tree tree) {
        Check.due(method + " makes " + tree + " in a constructor", method.endsWith(".<init>"), true);
    }

    /** Methods by their names alone: overloads count as one, which can only make the depth greater. */
    private static String name(Element element) {
        return element.getEnclosingElement() + "." + element.getSimpleName();
    }

    private void used(Element element) {
        if (element == null) {
            return;
        }
        ElementKind kind = element.getKind();
        boolean called = kind == ElementKind.METHOD || kind == ElementKind.CONSTRUCTOR;
        boolean field = kind == ElementKind.FIELD && element.getEnclosingElement() != null
                && element.getEnclosingElement().getKind().isClass();
        if (!called && !field) {
            return;
        }
        String name = name(element);
        boolean own = name.startsWith("DeliveryRound.");
        if (!own && !name.endsWith(".this") && !name.endsWith(".super")) {
            Check.due(method + " uses " + name + " of the library", LIBRARY.contains(name), true);
        }
        if (own && called) {
            calls.get(method).add(name);
        }
    }
}
