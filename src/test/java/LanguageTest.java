import com.sun.source.tree.AssertTree;
import com.sun.source.tree.ClassTree;
import com.sun.source.tree.CompilationUnitTree;
import com.sun.source.tree.ImportTree;
import com.sun.source.tree.LambdaExpressionTree;
import com.sun.source.tree.MemberReferenceTree;
import com.sun.source.tree.MemberSelectTree;
import com.sun.source.tree.MethodTree;
import com.sun.source.tree.NewClassTree;
import com.sun.source.tree.SynchronizedTree;
import com.sun.source.tree.ThrowTree;
import com.sun.source.tree.Tree;
import com.sun.source.tree.TryTree;
import com.sun.source.tree.VariableTree;
import com.sun.source.util.JavacTask;
import com.sun.source.util.TreeScanner;
import com.sun.source.util.Trees;
import java.util.List;
import java.util.Set;
import javax.lang.model.element.Modifier;
import javax.tools.JavaCompiler;
import javax.tools.StandardJavaFileManager;
import javax.tools.ToolProvider;

/** Those rules of LANGUAGE.md that can be read off the source: imports, sizes, and what may not stand in it. */
public final class LanguageTest extends TreeScanner<Void, Void> {
    private static final Set<String> IMPORTS = Set.of("java.util.Arrays", "java.util.NoSuchElementException");
    private static final Set<String> THROWN = Set.of("IllegalArgumentException", "NoSuchElementException");
    private static final Set<String> LIBRARY = Set.of("Arrays", "Integer", "Long", "Math", "String", "System");
    private static final Set<String> TAKEN = Set.of("Arrays.fill", "Integer.bitCount", "Math.max", "Math.min",
            "System.arraycopy");
    private static final int MOST_LINES = 60;
    private static final int MOST_PARAMETERS = 7;
    private static final int MOST_CLASSES = 12;
    private static final int MOST_FIELDS = 20;

    private final CompilationUnitTree unit;
    private final Trees trees;
    private int classes;

    private LanguageTest(CompilationUnitTree unit, Trees trees) {
        this.unit = unit;
        this.trees = trees;
    }

    public static void main(String[] args) throws java.io.IOException {
        JavaCompiler compiler = ToolProvider.getSystemJavaCompiler();
        StandardJavaFileManager files = compiler.getStandardFileManager(null, null, null);
        JavacTask task = (JavacTask) compiler.getTask(null, files, null, List.of(), null,
                files.getJavaFileObjects("src/main/java/EvenFinders.java"));
        for (CompilationUnitTree unit : task.parse()) {
            LanguageTest test = new LanguageTest(unit, Trees.instance(task));
            test.scan(unit, null);
            Check.is("some twelve classes", test.classes <= MOST_CLASSES ? 1 : 0, 1);
        }
        Check.end("LanguageTest");
    }

    private long line(long position) {
        return unit.getLineMap().getLineNumber(position);
    }

    private void never(String what, Tree tree) {
        Check.is(what + " at line " + line(trees.getSourcePositions().getStartPosition(unit, tree)), 1, 0);
    }

    @Override public Void visitImport(ImportTree tree, Void v) {
        String name = tree.getQualifiedIdentifier().toString();
        Check.is("import of " + name, IMPORTS.contains(name) ? 1 : 0, 1);
        return super.visitImport(tree, v);
    }

    @Override public Void visitClass(ClassTree tree, Void v) {
        classes++;
        int fields = 0;
        for (Tree member : tree.getMembers()) {
            if (member instanceof VariableTree field) {
                boolean constant = field.getModifiers().getFlags().contains(Modifier.STATIC);
                fields += constant ? 0 : 1;
                Check.is("final: " + field, !constant || field.getModifiers().getFlags().contains(Modifier.FINAL) ? 1 : 0, 1);
            }
        }
        Check.is("some twenty fields in " + tree.getSimpleName(), fields <= MOST_FIELDS ? 1 : 0, 1);
        return super.visitClass(tree, v);
    }

    @Override public Void visitMethod(MethodTree tree, Void v) {
        long from = line(trees.getSourcePositions().getStartPosition(unit, tree));
        long to = line(trees.getSourcePositions().getEndPosition(unit, tree));
        Check.is("lines of " + tree.getName(), to - from + 1 <= MOST_LINES ? 1 : 0, 1);
        // The document's own would has eight.
        boolean given = tree.getName().contentEquals("would");
        Check.is("parameters of " + tree.getName(), given || tree.getParameters().size() <= MOST_PARAMETERS ? 1 : 0, 1);
        return super.visitMethod(tree, v);
    }

    @Override public Void visitThrow(ThrowTree tree, Void v) {
        boolean written = tree.getExpression() instanceof NewClassTree made && THROWN.contains(made.getIdentifier().toString());
        Check.is("throw of " + tree.getExpression(), written ? 1 : 0, 1);
        return super.visitThrow(tree, v);
    }

    @Override public Void visitTry(TryTree tree, Void v) {
        never("try", tree);
        return super.visitTry(tree, v);
    }

    @Override public Void visitLambdaExpression(LambdaExpressionTree tree, Void v) {
        never("lambda", tree);
        return super.visitLambdaExpression(tree, v);
    }

    @Override public Void visitMemberReference(MemberReferenceTree tree, Void v) {
        never("method reference", tree);
        return super.visitMemberReference(tree, v);
    }

    /** Rule 4: only functions that it lists, and no constant of the library such as Integer's greatest. */
    @Override public Void visitMemberSelect(MemberSelectTree tree, Void v) {
        if (LIBRARY.contains(tree.getExpression().toString())) {
            Check.is("library: " + tree, TAKEN.contains(tree.toString()) ? 1 : 0, 1);
        }
        return super.visitMemberSelect(tree, v);
    }

    @Override public Void visitSynchronized(SynchronizedTree tree, Void v) {
        never("synchronized", tree);
        return super.visitSynchronized(tree, v);
    }

    @Override public Void visitAssert(AssertTree tree, Void v) {
        never("assert", tree);
        return super.visitAssert(tree, v);
    }
}
