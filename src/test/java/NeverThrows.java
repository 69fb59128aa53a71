import com.sun.source.tree.ArrayAccessTree;
import com.sun.source.tree.BinaryTree;
import com.sun.source.tree.CompoundAssignmentTree;
import com.sun.source.tree.ConditionalExpressionTree;
import com.sun.source.tree.ExpressionTree;
import com.sun.source.tree.ForLoopTree;
import com.sun.source.tree.IdentifierTree;
import com.sun.source.tree.IfTree;
import com.sun.source.tree.LiteralTree;
import com.sun.source.tree.NewArrayTree;
import com.sun.source.tree.PrimitiveTypeTree;
import com.sun.source.tree.Tree;
import com.sun.source.tree.TypeCastTree;
import com.sun.source.tree.VariableTree;
import com.sun.source.util.TreePath;
import com.sun.source.util.TreePathScanner;
import java.io.IOException;
import javax.lang.model.element.Element;
import javax.lang.model.element.ElementKind;
import javax.lang.model.element.Modifier;
import javax.lang.model.element.VariableElement;

/**
 * Rule 7, line by line: each index is told from what is outside of its array, each divisor from 0, each array's length
 * is fixed, no reference is null, no cast is of an object; so the machine throws nothing of its own.
 */
public final class NeverThrows extends TreePathScanner<Void, Void> {
    private final Source source;

    private NeverThrows(Source source) {
        this.source = source;
    }

    public static void main(String[] args) throws IOException {
        Source source = new Source();
        new NeverThrows(source).scan(source.unit, null);
        Checks.end();
    }

    private static void holds(String what, boolean is) {
        Checks.due("rule 7, " + what, is ? 1 : 0, 1);
    }

    /** Whether this stands where a condition counts that holds the test. */
    private boolean isBehind(String test) {
        for (TreePath p = getCurrentPath(); p != null; p = p.getParentPath()) {
            if (conditionOf(p.getLeaf()).contains(test)) return true;
        }
        return false;
    }

    private static String conditionOf(Tree t) {
        if (t instanceof ConditionalExpressionTree) return ((ConditionalExpressionTree) t).getCondition().toString();
        if (t instanceof IfTree) return ((IfTree) t).getCondition().toString();
        return t instanceof ForLoopTree ? String.valueOf(((ForLoopTree) t).getCondition()) : "";
    }

    @Override
    public Void visitArrayAccess(ArrayAccessTree t, Void v) {
        String i = t.getIndex().toString();
        String test = i + " >= 0 && " + i + " < " + t.getExpression() + ".length";
        holds("the index of " + t, t.getIndex() instanceof IdentifierTree && isBehind(test));
        return super.visitArrayAccess(t, v);
    }

    @Override
    public Void visitBinary(BinaryTree t, Void v) {
        if (t.getKind() == Tree.Kind.DIVIDE || t.getKind() == Tree.Kind.REMAINDER) divisor(t.getRightOperand());
        return super.visitBinary(t, v);
    }

    @Override
    public Void visitCompoundAssignment(CompoundAssignmentTree t, Void v) {
        boolean divides = t.getKind() == Tree.Kind.DIVIDE_ASSIGNMENT || t.getKind() == Tree.Kind.REMAINDER_ASSIGNMENT;
        if (divides) divisor(t.getExpression());
        return super.visitCompoundAssignment(t, v);
    }

    /** A number that is not 0, what is told from 0 ahead of it, or one more than a counter that is above 0. */
    private void divisor(ExpressionTree d) {
        String text = d.toString();
        boolean tested = isBehind(text + " == 0");
        if (d instanceof LiteralTree) tested = !text.equals("0");
        if (text.matches("\\(\\w+ \\+ 1\\)")) tested = isBehind(text.replaceAll("\\((\\w+).*", "$1 >= 1"));
        holds("the divisor " + text, tested);
    }

    @Override
    public Void visitNewArray(NewArrayTree t, Void v) {
        holds("an array of numbers: " + t, t.getType() == null || t.getType() instanceof PrimitiveTypeTree);
        for (ExpressionTree length : t.getDimensions()) {
            new TreePathScanner<Void, Void>() {
                @Override
                public Void visitIdentifier(IdentifierTree i, Void v) {
                    Element e = source.elementAt(getCurrentPath());
                    boolean constant = e instanceof VariableElement && ((VariableElement) e).getConstantValue() != null;
                    holds("the length " + length, constant);
                    return null;
                }
            }.scan(TreePath.getPath(getCurrentPath(), length), null);
        }
        return super.visitNewArray(t, v);
    }

    @Override
    public Void visitLiteral(LiteralTree t, Void v) {
        holds("null stands nowhere", t.getKind() != Tree.Kind.NULL_LITERAL);
        return super.visitLiteral(t, v);
    }

    /** The compiler sees that what is final has been given its value. */
    @Override
    public Void visitVariable(VariableTree t, Void v) {
        Element e = source.elementAt(getCurrentPath());
        if (e.getKind() == ElementKind.FIELD && !(t.getType() instanceof PrimitiveTypeTree)) {
            holds(t.getName() + " is never null", e.getModifiers().contains(Modifier.FINAL));
        }
        return super.visitVariable(t, v);
    }

    @Override
    public Void visitTypeCast(TypeCastTree t, Void v) {
        holds("the cast " + t, t.getType() instanceof PrimitiveTypeTree);
        return super.visitTypeCast(t, v);
    }
}
