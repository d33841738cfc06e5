import com.sun.source.tree.CompilationUnitTree;
import com.sun.source.tree.MethodInvocationTree;
import com.sun.source.tree.MethodTree;
import com.sun.source.tree.NewArrayTree;
import com.sun.source.tree.NewClassTree;
import com.sun.source.tree.SwitchTree;
import com.sun.source.tree.Tree;
import com.sun.source.util.JavacTask;
import com.sun.source.util.TreePath;
import com.sun.source.util.TreePathScanner;
import com.sun.source.util.Trees;
import java.nio.file.Path;
import java.util.HashSet;
import java.util.List;
import java.util.Map;
import java.util.Set;
import java.util.TreeMap;
import java.util.TreeSet;
import javax.lang.model.element.Element;
import javax.lang.model.element.ElementKind;
import javax.tools.JavaCompiler;
import javax.tools.StandardJavaFileManager;
import javax.tools.ToolProvider;

/** The rules of LANGUAGE.md on calls and on what is made, seen from the tree of the source. */
public final class SourceTreeTest {
    private static final Checks CHECKS = new Checks("SourceTreeTest");

    /** Of each method and constructor by its name those that it calls, the library's too. */
    private static final Map<String, Set<String>> CALLED = new TreeMap<>();
    private static final Set<String> FACE = new TreeSet<>();

    public static void main(String[] args) throws Exception {
        JavaCompiler compiler = ToolProvider.getSystemJavaCompiler();
        StandardJavaFileManager files = compiler.getStandardFileManager(null, null, null);
        JavacTask task = (JavacTask) compiler.getTask(null, files, null, List.of("-proc:none"), null,
            files.getJavaFileObjects(Path.of("src/main/java/EdgeMoves.java")));
        Iterable<? extends CompilationUnitTree> units = task.parse();
        task.analyze();
        for (CompilationUnitTree unit : units) {
            new Scanner(Trees.instance(task)).scan(unit, null);
        }
        CHECKS.holds("methods found", CALLED.size() > 100);
        CHECKS.due("methods and the constructor of the face", FACE.size(), 29);
        for (String call : FACE) {
            int depth = depthOf(call, new HashSet<>());
            CHECKS.holds(call + ": eight calls deep at most, and " + depth, depth <= 8);
        }
        CHECKS.end();
    }

    /** How many calls stand open at once, this one and the library's with them. */
    private static int depthOf(String call, Set<String> open) {
        CHECKS.holds("no recursion by " + call, open.add(call));
        int deepest = 0;
        for (String next : CALLED.getOrDefault(call, Set.of())) {
            if (!open.contains(next)) {
                deepest = Math.max(deepest, depthOf(next, open));
            } else {
                CHECKS.holds("no recursion from " + call + " to " + next, false);
            }
        }
        open.remove(call);
        return deepest + 1;
    }

    private static final class Scanner extends TreePathScanner<Void, Void> {
        private final Trees trees;
        private String method = "";
        private boolean isConstructor;

        Scanner(Trees trees) {
            this.trees = trees;
        }

        private String told(Element element) {
            return element.getEnclosingElement() + "." + element;
        }

        @Override
        public Void visitMethod(MethodTree tree, Void none) {
            Element element = trees.getElement(getCurrentPath());
            method = told(element);
            isConstructor = element.getKind() == ElementKind.CONSTRUCTOR;
            CALLED.put(method, new TreeSet<>());
            boolean isPublic = element.getModifiers().contains(javax.lang.model.element.Modifier.PUBLIC);
            if (isPublic) {
                FACE.add(method);
            }
            super.visitMethod(tree, none);
            method = "";
            isConstructor = false;
            return null;
        }

        private void note(Tree tree) {
            Element called = trees.getElement(new TreePath(getCurrentPath(), tree));
            CHECKS.holds("known: " + tree, called != null);
            if (called != null && CALLED.containsKey(method)) {
                CALLED.get(method).add(told(called));
            }
        }

        @Override
        public Void visitMethodInvocation(MethodInvocationTree tree, Void none) {
            note(tree);
            return super.visitMethodInvocation(tree, none);
        }

        @Override
        public Void visitNewClass(NewClassTree tree, Void none) {
            note(tree);
            CHECKS.holds(method + " makes nothing: " + tree, isConstructor);
            CHECKS.holds("no class without a name: " + tree, tree.getClassBody() == null);
            return super.visitNewClass(tree, none);
        }

        @Override
        public Void visitNewArray(NewArrayTree tree, Void none) {
            CHECKS.holds(method + " makes nothing: " + tree, isConstructor);
            return super.visitNewArray(tree, none);
        }

        /** A number that no case names goes by the default. */
        @Override
        public Void visitSwitch(SwitchTree tree, Void none) {
            boolean hasDefault = tree.getCases().stream().anyMatch(each -> each.getExpressions().isEmpty());
            CHECKS.holds("a switch has a default: " + method, hasDefault);
            return super.visitSwitch(tree, none);
        }
    }
}
