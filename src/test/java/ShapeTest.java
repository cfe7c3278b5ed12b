import com.sun.source.tree.CompilationUnitTree;
import com.sun.source.tree.LineMap;
import com.sun.source.tree.MethodInvocationTree;
import com.sun.source.tree.MethodTree;
import com.sun.source.tree.NewArrayTree;
import com.sun.source.tree.NewClassTree;
import com.sun.source.util.JavacTask;
import com.sun.source.util.SourcePositions;
import com.sun.source.util.TreePathScanner;
import com.sun.source.util.Trees;
import java.io.IOException;
import java.util.HashMap;
import java.util.HashSet;
import java.util.LinkedHashSet;
import java.util.List;
import java.util.Map;
import java.util.Set;
import javax.lang.model.element.Element;
import javax.lang.model.element.ElementKind;
import javax.lang.model.element.TypeElement;
import javax.tools.JavaCompiler;
import javax.tools.StandardJavaFileManager;
import javax.tools.ToolProvider;

/**
 * The rules of LANGUAGE.md that ask for the source's shape: how long a method is and how deep calls go (8, 11),
 * which functions of the library are called (4), and that nothing is made outside of constructors (12).
 */
public final class ShapeTest extends TreePathScanner<Void, Void> {
    private static final String SOURCE = "src/main/java/NumberedRings.java";
    private static final int MOST_LINES = 60;
    private static final int MOST_DEEP = 8;
    private static final Set<String> LIBRARY = Set.of("java.lang.Math.min", "java.lang.Math.max",
        "java.lang.Integer.bitCount", "java.lang.System.arraycopy", "java.lang.String.length", "java.lang.String.charAt",
        "java.lang.Object.<init>");

    private final Trees trees;
    private final SourcePositions positions;
    private final CompilationUnitTree unit;
    private final Map<Element, Set<Element>> called = new HashMap<>();
    private Element method;

    private ShapeTest(JavacTask task, CompilationUnitTree unit) {
        this.trees = Trees.instance(task);
        this.positions = trees.getSourcePositions();
        this.unit = unit;
    }

    public static void main(String[] args) throws IOException {
        JavaCompiler compiler = ToolProvider.getSystemJavaCompiler();
        try (StandardJavaFileManager files = compiler.getStandardFileManager(null, null, null)) {
            JavacTask task = (JavacTask) compiler.getTask(null, files, null, List.of("-proc:none"), null,
                    files.getJavaFileObjects(SOURCE));
            CompilationUnitTree unit = task.parse().iterator().next();
            task.analyze();
            ShapeTest shape = new ShapeTest(task, unit);
            shape.scan(unit, null);
            shape.depths();
        }
        Checks.end();
    }

    @Override
    public Void visitMethod(MethodTree tree, Void none) {
        method = trees.getElement(getCurrentPath());
        called.put(method, new LinkedHashSet<>());
        LineMap lines = unit.getLineMap();
        long first = lines.getLineNumber(positions.getStartPosition(unit, tree));
        long last = lines.getLineNumber(Math.max(0, positions.getEndPosition(unit, tree)));
        if (last - first + 1 > MOST_LINES) {
            Checks.fail("rule 11: " + nameOf(method) + " has " + (last - first + 1) + " lines");
        }
        super.visitMethod(tree, none);
        method = null;
        return none;
    }

    @Override
    public Void visitMethodInvocation(MethodInvocationTree tree, Void none) {
        calls(trees.getElement(getCurrentPath()));
        return super.visitMethodInvocation(tree, none);
    }

    @Override
    public Void visitNewClass(NewClassTree tree, Void none) {
        calls(trees.getElement(getCurrentPath()));
        made();
        return super.visitNewClass(tree, none);
    }

    @Override
    public Void visitNewArray(NewArrayTree tree, Void none) {
        made();
        return super.visitNewArray(tree, none);
    }

    /** Fields' initialisers belong to constructors: there is no method around them. */
    private void made() {
        if (method != null && method.getKind() != ElementKind.CONSTRUCTOR) {
            Checks.fail("rule 12: " + nameOf(method) + " makes an object or a row");
        }
    }

    private void calls(Element other) {
        if (!isOwn(other) && !LIBRARY.contains(nameOf(other))) {
            Checks.fail("rule 4: " + nameOf(other) + " is not of the library that may be used");
        }
        if (method != null) {
            called.get(method).add(other);
        }
    }

    private static boolean isOwn(Element element) {
        Element outer = element;
        while (outer.getEnclosingElement() instanceof TypeElement type) {
            outer = type;
        }
        return outer.getSimpleName().contentEquals("NumberedRings");
    }

    private static String nameOf(Element element) {
        return element.getEnclosingElement() + "." + element.getSimpleName();
    }

    private void depths() {
        if (called.isEmpty()) {
            Checks.fail("no method was found in " + SOURCE);
        }
        for (Element start : called.keySet()) {
            int deep = depth(start, new HashSet<>());
            if (deep > MOST_DEEP) {
                Checks.fail("rule 11: calls from " + nameOf(start) + " go " + deep + " deep");
            }
        }
    }

    private int depth(Element from, Set<Element> open) {
        if (!open.add(from)) {
            Checks.fail("rule 8: " + nameOf(from) + " calls itself");
            return 0;
        }
        int deepest = 0;
        for (Element next : called.getOrDefault(from, Set.of())) {
            deepest = Math.max(deepest, depth(next, open));
        }
        open.remove(from);
        return deepest + 1;
    }
}
