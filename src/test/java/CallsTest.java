import com.sun.source.tree.ClassTree;
import com.sun.source.tree.CompilationUnitTree;
import com.sun.source.tree.MethodInvocationTree;
import com.sun.source.tree.MethodTree;
import com.sun.source.tree.NewClassTree;
import com.sun.source.util.JavacTask;
import com.sun.source.util.TreePath;
import com.sun.source.util.TreePathScanner;
import com.sun.source.util.Trees;
import java.io.IOException;
import java.nio.file.Path;
import java.util.ArrayList;
import java.util.HashMap;
import java.util.HashSet;
import java.util.List;
import java.util.Map;
import java.util.Set;
import java.util.TreeSet;
import javax.lang.model.element.Element;
import javax.lang.model.element.ExecutableElement;
import javax.lang.model.element.Modifier;
import javax.lang.model.element.TypeElement;
import javax.tools.JavaCompiler;
import javax.tools.StandardJavaFileManager;
import javax.tools.ToolProvider;

/**
 * Who calls whom, as the compiler reads the class: rule 11 of LANGUAGE.md lets calls go eight deep, rule 8 wants a guard
 * where a method comes back to itself (here none does), and rule 4 lists what may be called of the library.
 */
public final class CallsTest {
    private static final int MOST_DEEP = 8;
    private static final Set<String> LIBRARY = Set.of("java.lang.Math.abs", "java.lang.Math.max", "java.lang.Math.min",
        "java.lang.Long.compare", "java.lang.Integer.bitCount", "java.lang.System.arraycopy", "java.util.Arrays.fill");

    private final Map<ExecutableElement, Set<ExecutableElement>> calls = new HashMap<>();
    private final Map<ExecutableElement, Integer> depths = new HashMap<>();
    private final Set<String> ofLibrary = new TreeSet<>();
    private final JavacTask task;
    private final Trees trees;

    private CallsTest(JavacTask task) {
        this.task = task;
        trees = Trees.instance(task);
    }

    public static void main(String[] args) throws IOException {
        JavaCompiler compiler = ToolProvider.getSystemJavaCompiler();
        try (StandardJavaFileManager files = compiler.getStandardFileManager(null, null, null)) {
            CallsTest test = new CallsTest((JavacTask) compiler.getTask(null, files, null, List.of("-proc:none"), null,
                files.getJavaFileObjects(Path.of("src/main/java/CurveShelf.java"))));
            test.read();
            test.library();
            test.depth();
        }
        Due.end();
    }

    private void read() throws IOException {
        Iterable<? extends CompilationUnitTree> units = task.parse();
        task.analyze();
        Reader reader = new Reader();
        for (CompilationUnitTree unit : units) {
            reader.scan(unit, null);
        }
    }

    private void library() {
        for (String call : ofLibrary) {
            Due.is(call + " is of the library that may be used", LIBRARY.contains(call), true);
        }
    }

    private void depth() {
        int open = 0;
        for (ExecutableElement method : calls.keySet()) {
            if (method.getModifiers().contains(Modifier.PUBLIC)) {
                int deep = depthOf(method, List.of());
                Due.is(method + " goes " + deep + " deep", deep <= MOST_DEEP, true);
                open++;
            }
        }
        Due.is("the constructor and the public methods are read", open, 1 + 38);
    }

    /** How many methods stand open at once from this one on. */
    private int depthOf(ExecutableElement method, List<ExecutableElement> above) {
        boolean again = above.contains(method);
        Due.is(method + " comes back to itself", again, false);
        if (again || depths.containsKey(method)) {
            return depths.getOrDefault(method, 0);
        }
        List<ExecutableElement> here = new ArrayList<>(above);
        here.add(method);
        int most = 0;
        for (ExecutableElement called : calls.getOrDefault(method, Set.of())) {
            for (ExecutableElement other : calls.keySet()) {
                if (other.equals(called) || overrides(other, called)) {
                    most = Math.max(most, depthOf(other, here));
                }
            }
        }
        depths.put(method, most + 1);
        return most + 1;
    }

    private boolean overrides(ExecutableElement other, ExecutableElement called) {
        return task.getElements().overrides(other, called, (TypeElement) other.getEnclosingElement());
    }

    /** Gathers the calls of each method; what a field's first value calls counts as called by the constructors. */
    private final class Reader extends TreePathScanner<Void, Void> {
        @Override
        public Void visitMethod(MethodTree node, Void none) {
            calls.computeIfAbsent((ExecutableElement) trees.getElement(getCurrentPath()), m -> new HashSet<>());
            return super.visitMethod(node, none);
        }

        @Override
        public Void visitMethodInvocation(MethodInvocationTree node, Void none) {
            note(trees.getElement(getCurrentPath()));
            return super.visitMethodInvocation(node, none);
        }

        @Override
        public Void visitNewClass(NewClassTree node, Void none) {
            note(trees.getElement(getCurrentPath()));
            return super.visitNewClass(node, none);
        }

        private void note(Element called) {
            String owner = ((TypeElement) called.getEnclosingElement()).getQualifiedName().toString();
            if (!owner.startsWith("CurveShelf")) {
                if (!owner.equals("java.lang.Object")) {
                    ofLibrary.add(owner + "." + called.getSimpleName());
                }
                return;
            }
            TreePath path = getCurrentPath();
            while (!(path.getLeaf() instanceof MethodTree) && !(path.getLeaf() instanceof ClassTree)) {
                path = path.getParentPath();
            }
            if (path.getLeaf() instanceof MethodTree) {
                callsOf(trees.getElement(path)).add((ExecutableElement) called);
                return;
            }
            for (Element member : trees.getElement(path).getEnclosedElements()) {
                if (member.getSimpleName().contentEquals("<init>")) {
                    callsOf(member).add((ExecutableElement) called);
                }
            }
        }

        private Set<ExecutableElement> callsOf(Element method) {
            return calls.computeIfAbsent((ExecutableElement) method, m -> new HashSet<>());
        }
    }
}
