import com.sun.source.tree.BinaryTree;
import com.sun.source.tree.BlockTree;
import com.sun.source.tree.DoWhileLoopTree;
import com.sun.source.tree.ExpressionStatementTree;
import com.sun.source.tree.ExpressionTree;
import com.sun.source.tree.ForLoopTree;
import com.sun.source.tree.IdentifierTree;
import com.sun.source.tree.MemberSelectTree;
import com.sun.source.tree.MethodInvocationTree;
import com.sun.source.tree.MethodTree;
import com.sun.source.tree.NewClassTree;
import com.sun.source.tree.ParenthesizedTree;
import com.sun.source.tree.StatementTree;
import com.sun.source.tree.Tree;
import com.sun.source.tree.WhileLoopTree;
import com.sun.source.util.TreePath;
import com.sun.source.util.TreePathScanner;
import java.io.IOException;
import java.util.ArrayList;
import java.util.HashMap;
import java.util.HashSet;
import java.util.List;
import java.util.Map;
import java.util.Set;
import javax.lang.model.element.Element;
import javax.lang.model.element.ElementKind;
import javax.lang.model.element.Modifier;

/**
 * What the compiler's trees show of ../shared/LANGUAGE.md: the library that is used (rule 4), what calls itself (8),
 * that each loop's end is seen from its own lines (9), how deep calls go (11).
 */
public final class Rules extends TreePathScanner<Void, Void> {
    /** The functions that rule 4 lists, by class and name. */
    private static final String LISTED = "String\\.(length|charAt|isEmpty|equals|indexOf|substring|toCharArray)"
            + "|StringBuilder\\.(append|charAt|setCharAt|setLength|deleteCharAt|reverse|length|toString)"
            + "|(Array)?List\\.(add|get|set|remove|size|isEmpty|clear|of)"
            + "|System\\.arraycopy|Arrays\\.(copyOf|copyOfRange|fill)|(Integer|Long|Math)\\.\\w*(?<!Exact)";
    private static final String MADE = "String|StringBuilder|ArrayList(<.*>)?";
    private static final int DEEPEST = 8;

    private final Source source;
    private final Map<Element, Source.Uses> methods = new HashMap<>();
    private final List<TreePath> loops = new ArrayList<>();

    private Rules(Source source) {
        this.source = source;
    }

    public static void main(String[] args) throws IOException {
        Source source = new Source();
        Rules rules = new Rules(source);
        rules.scan(source.unit, null);
        for (Element m : rules.methods.keySet()) rules.calls(m);
        for (TreePath loop : rules.loops) rules.end(loop);
        Checks.end();
    }

    private static void holds(String what, boolean is) {
        Checks.due(what, is ? 1 : 0, 1);
    }

    private static String name(Element e) {
        return e.getEnclosingElement().getSimpleName() + "." + e.getSimpleName();
    }

    private Element here() {
        return source.elementAt(getCurrentPath());
    }

    // ---- rule 4

    @Override
    public Void visitMethodInvocation(MethodInvocationTree t, Void v) {
        Element e = here();
        // the constructor of Object, which the compiler puts in
        boolean listed = e.getKind() == ElementKind.CONSTRUCTOR || name(e).matches(LISTED);
        if (Source.isLibrary(e)) holds("rule 4, listed: " + t, listed);
        return super.visitMethodInvocation(t, v);
    }

    @Override
    public Void visitMemberSelect(MemberSelectTree t, Void v) {
        Element e = here();
        if (e.getKind() == ElementKind.FIELD) holds("rule 4, no constant of the library: " + t, !Source.isLibrary(e));
        return super.visitMemberSelect(t, v);
    }

    @Override
    public Void visitNewClass(NewClassTree t, Void v) {
        boolean made = !Source.isLibrary(here().getEnclosingElement()) || t.getIdentifier().toString().matches(MADE);
        holds("rule 4, made: " + t, made);
        return super.visitNewClass(t, v);
    }

    // ---- rules 8, 11

    @Override
    public Void visitMethod(MethodTree t, Void v) {
        methods.put(here(), source.new Uses(getCurrentPath()));
        return super.visitMethod(t, v);
    }

    private void calls(Element m) {
        boolean itself = reached(methods.get(m)).contains(m);
        holds("rule 8, private, as it calls itself: " + name(m), !itself || m.getModifiers().contains(Modifier.PRIVATE));
        List<String> longest = longest(m, new HashSet<>());
        // methods that call one another count once each, as if they did not
        holds("rule 11, at most " + DEEPEST + " deep: " + longest, longest.size() <= DEEPEST);
    }

    /** What the compiler puts in, as a record's accessors, has no lines. */
    private Set<Element> calledBy(Element m) {
        return methods.containsKey(m) ? methods.get(m).called : Set.of();
    }

    private Set<Element> reached(Source.Uses from) {
        Set<Element> reached = new HashSet<>();
        List<Element> next = new ArrayList<>(from.called);
        while (!next.isEmpty()) {
            Element e = next.remove(next.size() - 1);
            if (reached.add(e)) next.addAll(calledBy(e));
        }
        return reached;
    }

    private List<String> longest(Element m, Set<Element> open) {
        List<String> longest = new ArrayList<>();
        open.add(m);
        for (Element called : calledBy(m)) {
            if (open.contains(called)) continue;
            List<String> further = longest(called, open);
            if (further.size() > longest.size()) longest = further;
        }
        open.remove(m);
        longest.add(0, name(m));
        return longest;
    }

    // ---- rule 9

    @Override
    public Void visitForLoop(ForLoopTree t, Void v) {
        loops.add(getCurrentPath());
        return super.visitForLoop(t, v);
    }

    @Override
    public Void visitWhileLoop(WhileLoopTree t, Void v) {
        loops.add(getCurrentPath());
        return super.visitWhileLoop(t, v);
    }

    @Override
    public Void visitDoWhileLoop(DoWhileLoopTree t, Void v) {
        loops.add(getCurrentPath());
        return super.visitDoWhileLoop(t, v);
    }

    private void end(TreePath loop) {
        Tree t = loop.getLeaf();
        boolean seen = false;
        if (t instanceof ForLoopTree) {
            ForLoopTree f = (ForLoopTree) t;
            seen = isEnded(loop, f.getCondition(), f.getUpdate(), f.getStatement());
        } else if (t instanceof WhileLoopTree && ((WhileLoopTree) t).getStatement() instanceof BlockTree) {
            WhileLoopTree w = (WhileLoopTree) t;
            seen = isEnded(loop, w.getCondition(), ((BlockTree) w.getStatement()).getStatements(), w.getStatement());
        }
        holds("rule 9, the end is seen: " + t, seen);
    }

    /** Whether one of the steps, which each round comes by, takes a counter toward a bound that stands. */
    private boolean isEnded(TreePath loop, ExpressionTree condition, List<? extends StatementTree> steps, Tree body) {
        List<BinaryTree> tests = new ArrayList<>();
        testsOf(condition, tests);
        Set<Element> changed = changedIn(new TreePath(loop, body));
        for (StatementTree s : steps) {
            if (!(s instanceof ExpressionStatementTree)) continue;
            ExpressionTree step = ((ExpressionStatementTree) s).getExpression();
            if (Source.stepOf(step) == 0) continue;
            Element counter = source.elementAt(TreePath.getPath(loop, Source.steppedBy(step)));
            for (BinaryTree test : tests) {
                if (isToward(test.getKind(), Source.stepOf(step)) && isBound(loop, test, counter, changed)) return true;
            }
        }
        return false;
    }

    /** What all must hold for the loop to go on. */
    private static void testsOf(Tree condition, List<BinaryTree> tests) {
        if (condition instanceof ParenthesizedTree) testsOf(((ParenthesizedTree) condition).getExpression(), tests);
        if (!(condition instanceof BinaryTree)) return;
        BinaryTree b = (BinaryTree) condition;
        tests.add(b);
        if (b.getKind() != Tree.Kind.CONDITIONAL_AND) return;
        testsOf(b.getLeftOperand(), tests);
        testsOf(b.getRightOperand(), tests);
    }

    private static boolean isToward(Tree.Kind kind, int step) {
        if (step > 0) return kind == Tree.Kind.LESS_THAN || kind == Tree.Kind.LESS_THAN_EQUAL;
        return kind == Tree.Kind.GREATER_THAN || kind == Tree.Kind.GREATER_THAN_EQUAL;
    }

    private Set<Element> changedIn(TreePath body) {
        Source.Uses uses = source.new Uses(body);
        Set<Element> changed = new HashSet<>(uses.assigned);
        for (Element m : reached(uses)) {
            if (methods.containsKey(m)) changed.addAll(methods.get(m).assigned);
        }
        return changed;
    }

    /** Whether the counter, on the left, is the only thing there that the loop changes, and no call stands there. */
    private boolean isBound(TreePath loop, BinaryTree test, Element counter, Set<Element> changed) {
        boolean[] stands = {true};
        boolean[] counts = {false};
        new TreePathScanner<Void, Void>() {
            private Void named() {
                Element e = source.elementAt(getCurrentPath());
                if (e.equals(counter)) counts[0] = true;
                else if (changed.contains(e)) stands[0] = false;
                return null;
            }

            @Override
            public Void visitIdentifier(IdentifierTree t, Void v) {
                return named();
            }

            @Override
            public Void visitMemberSelect(MemberSelectTree t, Void v) {
                named();
                return super.visitMemberSelect(t, v);
            }

            @Override
            public Void visitMethodInvocation(MethodInvocationTree t, Void v) {
                stands[0] = false;
                return null;
            }
        }.scan(TreePath.getPath(loop, test), null);
        return counts[0] && stands[0];
    }
}
