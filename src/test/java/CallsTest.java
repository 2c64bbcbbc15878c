import com.sun.source.tree.ClassTree;
import com.sun.source.tree.CompilationUnitTree;
import com.sun.source.tree.MethodInvocationTree;
import com.sun.source.tree.MethodTree;
import com.sun.source.tree.NewArrayTree;
import com.sun.source.tree.NewClassTree;
import com.sun.source.tree.Tree;
import com.sun.source.util.JavacTask;
import com.sun.source.util.TreePath;
import com.sun.source.util.TreePathScanner;
import com.sun.source.util.Trees;
import java.io.File;
import java.io.IOException;
import java.util.ArrayList;
import java.util.HashMap;
import java.util.List;
import java.util.Map;
import java.util.Set;
import java.util.TreeMap;
import java.util.TreeSet;
import javax.lang.model.element.Element;
import javax.lang.model.element.ExecutableElement;
import javax.lang.model.element.Modifier;
import javax.lang.model.element.TypeElement;
import javax.tools.JavaCompiler;
import javax.tools.StandardJavaFileManager;
import javax.tools.ToolProvider;

/**
 * Rules 4, 8, 11 and 12 of LANGUAGE.md, by the calls that the compiler sees in the class: which of the
 * library's there are, that none comes back to itself, how deep they go, and that only constructors make objects.
 */
public final class CallsTest {
    private static final File SOURCE = new File("src/main/java/ThreePhases.java");
    private static final int DEEPEST = 8;
    private static final Set<String> LIBRARY = Set.of("java.lang.String.length", "java.lang.String.charAt",
        "java.lang.Integer.bitCount", "java.lang.Math.max", "java.lang.Math.min", "java.lang.System.arraycopy",
        "java.util.Arrays.fill");

    private final Map<String, Set<String>> calls = new TreeMap<>();
    private final Set<String> roots = new TreeSet<>();
    private final Set<String> makers = new TreeSet<>();
    private final Set<String> foreign = new TreeSet<>();
    private final Map<String, Integer> depths = new HashMap<>();

    public static void main(String[] args) throws IOException {
        CallsTest test = new CallsTest();
        test.read();
        test.check();
        Kit.finish("CallsTest");
    }

    private void read() throws IOException {
        JavaCompiler compiler = ToolProvider.getSystemJavaCompiler();
        try (StandardJavaFileManager files = compiler.getStandardFileManager(null, null, null)) {
            JavacTask task = (JavacTask) compiler.getTask(null, files, null, List.of("-proc:none"), null,
                files.getJavaFileObjects(SOURCE));
            Iterable<? extends CompilationUnitTree> units = task.parse();
            task.analyze();
            for (CompilationUnitTree unit : units) {
                new Calls(Trees.instance(task)).scan(unit, null);
            }
        }
    }

    private void check() {
        Kit.due("public methods and the constructor", roots.size(), 30);
        Kit.due("calls of methods " + calls.size(), calls.size() > 100, true);
        for (String method : foreign) {
            Kit.due("rule 4: the library's " + method, LIBRARY.contains(method), true);
        }
        for (String root : roots) {
            int deep = depth(root, new ArrayList<>());
            Kit.due("rule 11: " + root + " goes " + deep + " deep", deep <= DEEPEST, true);
        }
        for (String maker : makers) {
            Kit.due("rule 12: an object is made in " + maker, maker.endsWith(".<init>"), true);
        }
        for (String method : calls.keySet()) {
            Kit.due("a call leads to " + method, depths.containsKey(method), true);
        }
    }

    /** How many calls stand open at most, this one counted. */
    private int depth(String method, List<String> open) {
        if (open.contains(method)) {
            Kit.due("rule 8: a call comes back to itself, " + open + " " + method, false, true);
            return 1;
        }
        Integer known = depths.get(method);
        if (known != null) {
            return known;
        }
        open.add(method);
        int below = 0;
        for (String called : calls.getOrDefault(method, Set.of())) {
            below = Math.max(below, depth(called, open));
        }
        open.remove(open.size() - 1);
        depths.put(method, below + 1);
        return below + 1;
    }

    /** Notes what is called and made in each method; a field's initialiser is the constructor's. */
    private final class Calls extends TreePathScanner<Void, Void> {
        private final Trees trees;

        Calls(Trees trees) {
            this.trees = trees;
        }

        private String here() {
            String method = "<init>";
            for (TreePath path = getCurrentPath(); path != null; path = path.getParentPath()) {
                Tree leaf = path.getLeaf();
                if (leaf instanceof MethodTree) {
                    method = ((MethodTree) leaf).getName().toString();
                }
                if (leaf instanceof ClassTree) {
                    return ((TypeElement) trees.getElement(path)).getQualifiedName() + "." + method;
                }
            }
            return method;
        }

        private void note(Element called) {
            if (!(called instanceof ExecutableElement)) {
                Kit.due("the compiler knows what is called in " + here(), false, true);
                return;
            }
            String owner = ((TypeElement) called.getEnclosingElement()).getQualifiedName().toString();
            String name = owner + "." + called.getSimpleName();
            if (name.equals("java.lang.Object.<init>")) {
                return;
            }
            if (owner.startsWith("java.")) {
                foreign.add(name);
            }
            calls.computeIfAbsent(here(), k -> new TreeSet<>()).add(name);
        }

        @Override
        public Void visitMethod(MethodTree method, Void none) {
            Element element = trees.getElement(getCurrentPath());
            boolean outer = element.getEnclosingElement().getSimpleName().contentEquals("ThreePhases");
            calls.computeIfAbsent(here(), k -> new TreeSet<>());
            if (outer && element.getModifiers().contains(Modifier.PUBLIC)) {
                roots.add(here());
            }
            return super.visitMethod(method, none);
        }

        @Override
        public Void visitMethodInvocation(MethodInvocationTree call, Void none) {
            note(trees.getElement(new TreePath(getCurrentPath(), call.getMethodSelect())));
            return super.visitMethodInvocation(call, none);
        }

        @Override
        public Void visitNewClass(NewClassTree made, Void none) {
            makers.add(here());
            note(trees.getElement(getCurrentPath()));
            return super.visitNewClass(made, none);
        }

        @Override
        public Void visitNewArray(NewArrayTree made, Void none) {
            // An array of constants has no length, only what is written out in it.
            if (!made.getDimensions().isEmpty()) {
                makers.add(here());
            }
            return super.visitNewArray(made, none);
        }
    }
}
