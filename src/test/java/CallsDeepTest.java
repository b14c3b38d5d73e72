import com.sun.source.tree.CompilationUnitTree;
import com.sun.source.tree.MethodInvocationTree;
import com.sun.source.tree.MethodTree;
import com.sun.source.tree.NewClassTree;
import com.sun.source.tree.Tree;
import com.sun.source.util.JavacTask;
import com.sun.source.util.TreePathScanner;
import com.sun.source.util.Trees;
import java.util.ArrayDeque;
import java.util.Deque;
import java.util.LinkedHashMap;
import java.util.List;
import java.util.Map;
import java.util.Set;
import java.util.TreeSet;
import javax.lang.model.element.Element;
import javax.tools.JavaCompiler;
import javax.tools.StandardJavaFileManager;
import javax.tools.ToolProvider;

/** LANGUAGE.md's rule 11: calls go at most eight deep; a method that comes again (recursion) is counted once. */
public final class CallsDeepTest extends TreePathScanner<Void, Void> {
    private static final int MOST_DEEP = 8;

    private final Trees trees;
    private final Map<String, Set<String>> calls = new LinkedHashMap<>();
    private String within;

    private CallsDeepTest(Trees trees) {
        this.trees = trees;
    }

    public static void main(String[] args) throws java.io.IOException {
        JavaCompiler compiler = ToolProvider.getSystemJavaCompiler();
        StandardJavaFileManager files = compiler.getStandardFileManager(null, null, null);
        JavacTask task = (JavacTask) compiler.getTask(null, files, null, List.of("-proc:none"), null,
                files.getJavaFileObjects("src/main/java/EvenFinders.java"));
        Iterable<? extends CompilationUnitTree> units = task.parse();
        task.analyze();
        CallsDeepTest test = new CallsDeepTest(Trees.instance(task));
        for (CompilationUnitTree unit : units) {
            test.scan(unit, null);
        }
        for (String method : test.calls.keySet()) {
            Deque<String> open = new ArrayDeque<>();
            Deque<String> deepest = new ArrayDeque<>();
            test.goDown(method, open, deepest);
            Check.is("calls from " + deepest, deepest.size() <= MOST_DEEP ? 1 : 0, 1);
        }
        Check.is("the class has methods", test.calls.size() > 42 ? 1 : 0, 1);
        Check.end("CallsDeepTest");
    }

    private void goDown(String method, Deque<String> open, Deque<String> deepest) {
        if (!calls.containsKey(method) || open.contains(method)) {
            return;
        }
        open.addLast(method);
        if (open.size() > deepest.size()) {
            deepest.clear();
            deepest.addAll(open);
        }
        for (String called : calls.get(method)) {
            goDown(called, open, deepest);
        }
        open.removeLast();
    }

    private static String name(Element method) {
        return method.getEnclosingElement().getSimpleName() + "." + method;
    }

    @Override public Void visitMethod(MethodTree tree, Void v) {
        within = name(trees.getElement(getCurrentPath()));
        calls.put(within, new TreeSet<>());
        return super.visitMethod(tree, v);
    }

    @Override public Void visitMethodInvocation(MethodInvocationTree tree, Void v) {
        called(tree);
        return super.visitMethodInvocation(tree, v);
    }

    @Override public Void visitNewClass(NewClassTree tree, Void v) {
        called(tree);
        return super.visitNewClass(tree, v);
    }

    private void called(Tree tree) {
        Element method = trees.getElement(getCurrentPath());
        if (within != null && method != null) {
            calls.get(within).add(name(method));
        }
    }
}
