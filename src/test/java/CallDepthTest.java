import com.sun.source.tree.ClassTree;
import com.sun.source.tree.CompilationUnitTree;
import com.sun.source.tree.MethodInvocationTree;
import com.sun.source.tree.MethodTree;
import com.sun.source.tree.NewClassTree;
import com.sun.source.util.JavacTask;
import com.sun.source.util.TreePath;
import com.sun.source.util.TreePathScanner;
import com.sun.source.util.Trees;
import java.io.IOException;
import java.nio.file.Path;
import java.util.ArrayDeque;
import java.util.Deque;
import java.util.LinkedHashMap;
import java.util.LinkedHashSet;
import java.util.List;
import java.util.Map;
import java.util.Set;
import java.util.TreeSet;
import javax.lang.model.element.Element;
import javax.lang.model.element.ElementKind;
import javax.lang.model.element.Modifier;
import javax.tools.JavaCompiler;
import javax.tools.StandardJavaFileManager;
import javax.tools.ToolProvider;

/**
 * Rules 8 and 11 of LANGUAGE.md by the compiler's own reading of the class: who calls whom, how deep that goes, and
 * that the one function that calls itself is private and static.
 */
public final class CallDepthTest {
    private static final String SOURCE = "src/main/java/LaughDrive.java";
    /** A call of the face counts as the first. */
    private static final int DEEPEST = 8;
    private static final Sheet S = new Sheet();

    private static final class Calls extends TreePathScanner<Void, Element> {
        final Map<Element, Set<Element>> of = new LinkedHashMap<>();
        private final Trees trees;

        Calls(Trees trees) { this.trees = trees; }

        @Override public Void visitClass(ClassTree tree, Element outer) {
            return super.visitClass(tree, trees.getElement(getCurrentPath()));
        }

        @Override public Void visitMethod(MethodTree tree, Element outer) {
            Element method = trees.getElement(getCurrentPath());
            // What a class does at its fields is done by its constructors.
            if (method.getKind() == ElementKind.CONSTRUCTOR) { note(method, method.getEnclosingElement()); }
            of.putIfAbsent(method, new LinkedHashSet<>());
            return super.visitMethod(tree, method);
        }

        @Override public Void visitMethodInvocation(MethodInvocationTree tree, Element by) {
            note(by, trees.getElement(new TreePath(getCurrentPath(), tree.getMethodSelect())));
            return super.visitMethodInvocation(tree, by);
        }

        @Override public Void visitNewClass(NewClassTree tree, Element by) {
            note(by, trees.getElement(getCurrentPath()));
            return super.visitNewClass(tree, by);
        }

        private void note(Element by, Element called) {
            of.computeIfAbsent(by, unused -> new LinkedHashSet<>()).add(called);
        }
    }

    private static Map<Element, Set<Element>> calls() throws IOException {
        JavaCompiler compiler = ToolProvider.getSystemJavaCompiler();
        try (StandardJavaFileManager files = compiler.getStandardFileManager(null, null, null)) {
            JavacTask task = (JavacTask) compiler.getTask(null, files, null, List.of("-proc:none", "--release", "17"), null,
                files.getJavaFileObjects(Path.of(SOURCE)));
            Iterable<? extends CompilationUnitTree> units = task.parse();
            task.analyze();
            Calls calls = new Calls(Trees.instance(task));
            for (CompilationUnitTree unit : units) { calls.scan(unit, null); }
            return calls.of;
        }
    }

    /** How many calls stand open at most, this one among them; a call of itself is recursion, and does not count. */
    private static int depth(Map<Element, Set<Element>> calls, Element method, Deque<Element> open) {
        S.holds("only by itself is " + method + " called again: " + open, !open.contains(method));
        if (open.contains(method)) { return 0; }
        open.push(method);
        int deepest = 0;
        for (Element called : calls.getOrDefault(method, Set.of())) {
            if (called != method) { deepest = Math.max(deepest, depth(calls, called, open)); }
        }
        open.pop();
        return deepest + (method.getKind().isClass() ? 0 : 1);
    }

    public static void main(String[] args) throws IOException {
        Map<Element, Set<Element>> calls = calls();
        Set<String> again = new TreeSet<>();
        int face = 0;
        for (Map.Entry<Element, Set<Element>> entry : calls.entrySet()) {
            Element method = entry.getKey();
            if (entry.getValue().contains(method)) {
                again.add(method.getSimpleName().toString());
                S.holds(method + " is private and static", method.getModifiers().containsAll(Set.of(Modifier.PRIVATE, Modifier.STATIC)));
            }
            if (method.getModifiers().contains(Modifier.PUBLIC) && !method.getKind().isClass()) {
                face++;
                int deep = depth(calls, method, new ArrayDeque<>());
                S.holds(method + " goes " + deep + " deep", deep <= DEEPEST);
            }
        }
        S.due("calls of the face, the constructor among them", face, 25);
        S.holds("what calls itself: " + again, again.equals(Set.of("worthOfRest")));
        S.close("CallDepthTest");
    }
}
