import com.sun.source.tree.ClassTree;
import com.sun.source.tree.CompilationUnitTree;
import com.sun.source.tree.MethodInvocationTree;
import com.sun.source.tree.MethodTree;
import com.sun.source.tree.NewArrayTree;
import com.sun.source.tree.NewClassTree;
import com.sun.source.tree.Tree;
import com.sun.source.util.JavacTask;
import com.sun.source.util.TreePathScanner;
import com.sun.source.util.Trees;
import java.io.File;
import java.util.ArrayList;
import java.util.Arrays;
import java.util.Collections;
import java.util.HashSet;
import java.util.List;
import java.util.Map;
import java.util.Set;
import java.util.TreeMap;
import java.util.TreeSet;
import javax.lang.model.element.Element;
import javax.lang.model.element.ExecutableElement;
import javax.lang.model.element.Modifier;
import javax.tools.JavaCompiler;
import javax.tools.StandardJavaFileManager;
import javax.tools.ToolProvider;

/**
 * What LANGUAGE.md says of calls, seen by the compiler's own reading of the program: what of the library is called (4),
 * what calls itself (8), how deep calls go (11), how long a method is (11), and what a call makes (12).
 */
public final class CallsTest extends TreePathScanner<Void, Void> {
    private static final Set<String> LIBRARY = new HashSet<>(Arrays.asList("Math.max", "Math.min", "Math.floorMod",
            "Integer.bitCount", "Arrays.fill", "System.arraycopy", "String.length", "String.charAt", "Object.<init>"));
    private static final Set<String> MADE = new HashSet<>(Arrays.asList("NoSuchElementException", "IllegalArgumentException",
            "IllegalStateException"));
    private static final int MOST_DEEP = 8;
    private static final int MOST_LINES = 60;
    private static int wrong = 0;

    private final Trees trees;
    private final CompilationUnitTree unit;
    private final Map<String, Set<String>> calls = new TreeMap<>();
    private final Set<String> hidden = new HashSet<>();
    private String inside = "";

    private CallsTest(Trees trees, CompilationUnitTree unit) {
        this.trees = trees;
        this.unit = unit;
    }

    public static void main(String[] args) throws Exception {
        String path = System.getProperty("nearfar.source", "src/main/java/NearFar.java");
        JavaCompiler compiler = ToolProvider.getSystemJavaCompiler();
        try (StandardJavaFileManager files = compiler.getStandardFileManager(null, null, null)) {
            JavacTask task = (JavacTask) compiler.getTask(null, files, null, Collections.singletonList("-proc:none"), null,
                    files.getJavaFileObjects(new File(path)));
            CompilationUnitTree unit = task.parse().iterator().next();
            task.analyze();
            CallsTest seen = new CallsTest(Trees.instance(task), unit);
            seen.scan(unit, null);
            seen.selfCalls();
            seen.depths();
        }
        System.out.println(wrong == 0 ? "the rules of calls are kept" : wrong + " rules of calls are not kept");
        if (wrong != 0) {
            System.exit(1);
        }
    }

    private static void need(boolean b, String what) {
        if (!b) {
            wrong++;
            System.out.println(what);
        }
    }

    private static String nameOf(Element e) {
        return e.getEnclosingElement().getSimpleName() + "." + e.getSimpleName();
    }

    @Override
    public Void visitMethod(MethodTree method, Void none) {
        ExecutableElement e = (ExecutableElement) trees.getElement(getCurrentPath());
        String outside = inside;
        inside = nameOf(e);
        need(!calls.containsKey(inside), "two methods have one name (this test tells them apart by it): " + inside);
        calls.put(inside, new TreeSet<>());
        if (e.getModifiers().contains(Modifier.PRIVATE)) {
            hidden.add(inside);
        }
        long lines = lineOf(trees.getSourcePositions().getEndPosition(unit, method))
                - lineOf(trees.getSourcePositions().getStartPosition(unit, method)) + 1;
        need(lines <= MOST_LINES, inside + " has " + lines + " lines");
        super.visitMethod(method, none);
        inside = outside;
        return null;
    }

    private long lineOf(long position) {
        return unit.getLineMap().getLineNumber(position);
    }

    @Override
    public Void visitMethodInvocation(MethodInvocationTree call, Void none) {
        Element e = trees.getElement(getCurrentPath());
        if (own(e)) {
            calls.get(inside).add(nameOf(e));
        } else {
            need(LIBRARY.contains(nameOf(e)), inside + " calls " + nameOf(e));
        }
        return super.visitMethodInvocation(call, none);
    }

    private static boolean own(Element e) {
        Element top = e;
        while (top.getEnclosingElement() != null && !top.getSimpleName().contentEquals("NearFar")) {
            top = top.getEnclosingElement();
        }
        return top.getSimpleName().contentEquals("NearFar");
    }

    @Override
    public Void visitNewClass(NewClassTree made, Void none) {
        String name = trees.getElement(getCurrentPath()).getEnclosingElement().getSimpleName().toString();
        need(inField() || MADE.contains(name), inside + " makes a " + name);
        return super.visitNewClass(made, none);
    }

    @Override
    public Void visitNewArray(NewArrayTree made, Void none) {
        need(inField(), inside + " makes an array");
        return super.visitNewArray(made, none);
    }

    /** Whether it stands in the first value of a field: then a constructor makes it, once for each object. */
    private boolean inField() {
        Tree holder = getCurrentPath().getParentPath().getParentPath().getLeaf();
        return getCurrentPath().getParentPath().getLeaf().getKind() == Tree.Kind.VARIABLE && holder instanceof ClassTree;
    }

    private void selfCalls() {
        for (String method : calls.keySet()) {
            Set<String> reached = new HashSet<>();
            reach(method, reached);
            need(!reached.contains(method) || hidden.contains(method), method + " calls itself, and is not private");
        }
    }

    private void reach(String method, Set<String> reached) {
        for (String next : calls.getOrDefault(method, Collections.emptySet())) {
            if (reached.add(next)) {
                reach(next, reached);
            }
        }
    }

    private void depths() {
        for (String method : calls.keySet()) {
            need(depth(method, Collections.emptyList()) <= MOST_DEEP, "from " + method + " on calls go too deep");
        }
    }

    /** Of methods that call one another each counts once. */
    private int depth(String method, List<String> open) {
        if (open.contains(method)) {
            return 0;
        }
        List<String> within = new ArrayList<>(open);
        within.add(method);
        int deepest = 0;
        for (String next : calls.getOrDefault(method, Collections.emptySet())) {
            deepest = Math.max(deepest, depth(next, within));
        }
        return deepest + 1;
    }
}
