import com.sun.source.tree.AssignmentTree;
import com.sun.source.tree.CompilationUnitTree;
import com.sun.source.tree.CompoundAssignmentTree;
import com.sun.source.tree.MethodInvocationTree;
import com.sun.source.tree.Tree;
import com.sun.source.tree.UnaryTree;
import com.sun.source.util.JavacTask;
import com.sun.source.util.TreePath;
import com.sun.source.util.TreePathScanner;
import com.sun.source.util.Trees;
import java.io.File;
import java.io.IOException;
import java.util.HashSet;
import java.util.List;
import java.util.Set;
import javax.lang.model.element.Element;
import javax.tools.JavaCompiler;
import javax.tools.StandardJavaFileManager;
import javax.tools.ToolProvider;

/** The source as the compiler sees it: its trees, and what each name in them stands for. */
final class Source {
    final CompilationUnitTree unit;
    private final Trees trees;

    Source() throws IOException {
        JavaCompiler compiler = ToolProvider.getSystemJavaCompiler();
        StandardJavaFileManager files = compiler.getStandardFileManager(null, null, null);
        JavacTask task = (JavacTask) compiler.getTask(null, files, null, List.of("-proc:none"), null,
                files.getJavaFileObjects(new File("src/main/java/BothBeside.java")));
        unit = task.parse().iterator().next();
        task.analyze();
        trees = Trees.instance(task);
    }

    Element elementAt(TreePath path) {
        return trees.getElement(path);
    }

    static boolean isLibrary(Element e) {
        return e.getEnclosingElement().toString().startsWith("java.");
    }

    /** 1 or -1: what a step adds; 0: it is none. */
    static int stepOf(Tree t) {
        switch (t.getKind()) {
            case POSTFIX_INCREMENT: case PREFIX_INCREMENT: return 1;
            case POSTFIX_DECREMENT: case PREFIX_DECREMENT: return -1;
            case PLUS_ASSIGNMENT: return ((CompoundAssignmentTree) t).getExpression().toString().matches("[1-9]\\d*") ? 1 : 0;
            default: return 0;
        }
    }

    static Tree steppedBy(Tree step) {
        return step instanceof UnaryTree ? ((UnaryTree) step).getExpression() : ((CompoundAssignmentTree) step).getVariable();
    }

    /** What some part of the source calls and gives another value, with its own lines. */
    final class Uses extends TreePathScanner<Void, Void> {
        final Set<Element> called = new HashSet<>();
        final Set<Element> assigned = new HashSet<>();

        Uses(TreePath part) {
            scan(part, null);
        }

        private void assigns(Tree variable) {
            assigned.add(elementAt(TreePath.getPath(getCurrentPath(), variable)));
        }

        @Override
        public Void visitMethodInvocation(MethodInvocationTree t, Void v) {
            Element e = elementAt(getCurrentPath());
            if (!isLibrary(e)) called.add(e);
            return super.visitMethodInvocation(t, v);
        }

        @Override
        public Void visitAssignment(AssignmentTree t, Void v) {
            assigns(t.getVariable());
            return super.visitAssignment(t, v);
        }

        @Override
        public Void visitCompoundAssignment(CompoundAssignmentTree t, Void v) {
            assigns(t.getVariable());
            return super.visitCompoundAssignment(t, v);
        }

        @Override
        public Void visitUnary(UnaryTree t, Void v) {
            if (stepOf(t) != 0) assigns(t.getExpression());
            return super.visitUnary(t, v);
        }
    }
}
