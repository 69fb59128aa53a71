import java.util.ArrayList;
import java.util.List;
import java.util.function.Supplier;
import java.util.function.ToLongFunction;

/** The edges of the paragraph on answers: each refusal, and that it changes nothing; objects beside one another. */
public final class EdgesOfRefusals extends Edges {
    private static final String NOTHING = "What is answered so changes nothing.";

    private final String state;
    private final Supplier<BothBeside> made;
    private final List<Long> untouched;

    private EdgesOfRefusals(String state, Supplier<BothBeside> made) {
        this.state = state;
        this.made = made;
        this.untouched = seen(made.get());
    }

    public static void main(String[] args) {
        severalRefusals();
        says(NOTHING);
        bare();
        full();
        half();
        notAsTold();
        says("---- what may be.");
        thoughtsChangeNothing();
        says("All memory is the class's own.");
        besideOneAnother();
        Checks.end();
    }

    /** The call is answered so, and all that can be asked then is as without it. */
    private void refuses(String call, ToLongFunction<BothBeside> called, long refusal) {
        BothBeside x = made.get();
        due(state + ": " + call, called.applyAsLong(x), refusal);
        List<Long> seen = seen(x);
        due(state + ": " + call + " changes nothing", seen.equals(untouched) ? 0 : 1, 0);
    }

    /** What can be asked, and what can be undone, done again, laid back and read from the tape then. */
    private static List<Long> seen(BothBeside x) {
        List<Long> seen = new ArrayList<>();
        look(x, seen);
        long left = x.redo();
        while (left >= 0) {
            see(seen, left, x.of(0, 0), x.of(0, 20));
            left = x.redo();
        }
        for (left = x.undo(); left >= 0; left = x.undo()) see(seen, left, x.of(0, 0), x.of(0, 20));
        for (int s = 0; s < 8; s++) see(seen, x.of(s, 0));
        see(seen, x.back());
        for (int p = 0; p < 8; p++) see(seen, x.of(p, 10));
        see(seen, x.of(0, 22), x.of(0, 23), x.law());
        for (int s = 0; s < 8; s++) see(seen, x.of(s, 2));
        see(seen, x.stone(5), x.body(1), x.feed('w'));
        return seen;
    }

    private static void look(BothBeside x, List<Long> seen) {
        for (int what = 0; what <= 5; what++) see(seen, x.count(what));
        for (int s = 0; s < 8; s++) see(seen, x.of(s, 0), x.of(s, 1), x.of(s, 2), x.of(s, 10));
        for (int what = 20; what <= 23; what++) see(seen, x.of(0, what));
        for (int i = 0; i < 6; i++) see(seen, x.trace(i));
        for (int shelf = 0; shelf < 6; shelf++) {
            see(seen, x.taken(shelf, 0), x.element(shelf, 0), x.element(shelf, 2), x.element(shelf, 3));
        }
    }

    private static void see(List<Long> seen, long... answers) {
        for (long a : answers) seen.add(a);
    }

    /** Calls that could be refused for two reasons: the one that their own sentence names first is answered. */
    private static void severalRefusals() {
        says("Answers, of several the one named first: BAD (-1): no such number, or it is not as said; NOT (-2): as told; FULL (-3); STATE (-5): as told; -11 to -14.");
        BothBeside full = filled();
        due("stone(0): BAD, FULL", full.stone(0), BAD);
        due("feed(256): BAD, FULL", full.feed(256), BAD);
        due("body(8): BAD, FULL", full.body(8), BAD);
        due("set(0, 9): BAD, STATE", full.set(0, 9), BAD);
        due("stones(1, 0, 9): BAD, -12", full.stones(1, 0, 9), BAD);
        due("fewest(6): BAD, STATE", full.fewest(6), BAD);
        due("fewest(5): -11, STATE", full.fewest(5), NOTHING_THERE);
        due("fewest(1): -12, STATE", full.fewest(1), OTHER_KIND);
        due("fewest(4): -12, STATE", full.fewest(4), OTHER_KIND);
        due("book(5, 8): BAD, -11", full.book(5, 8), BAD);
        due("book(1, 8): BAD, -12", full.book(1, 8), BAD);
        due("row(6, 0, -1): BAD, -14", full.row(6, BYTES, -1), BAD);
        due("row(0, 5, -1): BAD, -14", full.row(0, 5, -1), BAD);
        due("put(6, -1, 0): BAD, -13", full.put(6, -1, 0), BAD);
        due("put(5, -1, 0): -11, -13", full.put(5, -1, 0), NOTHING_THERE);
        due("put(4, -1, 0): -12, -13", full.put(4, -1, 0), OTHER_KIND);
        due("shift(6, 0, 5, 0, 1): BAD, -11", full.shift(6, 0, 5, 0, 1), BAD);
        due("shift(5, 0, 6, 0, 1): BAD, -11", full.shift(5, 0, 6, 0, 1), BAD);
        due("shift(5, 0, 4, 0, -1): -11, -12, -13", full.shift(5, 0, 4, 0, -1), NOTHING_THERE);
        due("shift(4, 0, 5, 0, -1): -11, -12, -13", full.shift(4, 0, 5, 0, -1), NOTHING_THERE);
        due("shift(0, 0, 1, 0, -1): -12, -13", full.shift(0, 0, 1, 0, -1), OTHER_KIND);
        due("taken(5, 8): BAD, -11", full.taken(5, 8), BAD);
        due("taken(0, 8): BAD, -12", full.taken(0, 8), BAD);
        BothBeside none = under("0", 2);
        none.row(1, SHORTS, 1);
        due("rows(3, 2): BAD, NOT", none.rows(3, 2), BAD);
        due("book(0, -1): -11, NOT", none.book(0, 0), NOTHING_THERE);
        due("book(1, -1): -12, NOT", none.book(1, 0), OTHER_KIND);
        due("makeUp(2): BAD, NOT", none.makeUp(2), BAD);
        due("soldOn(-2): BAD, NOT", none.soldOn(-2), BAD);
        due("ounces(1) of one: BAD, NOT", standing(9).ounces(1), BAD);
    }

    private static void bare() {
        EdgesOfRefusals r = new EdgesOfRefusals("bare", BothBeside::new);
        r.wrongNumbers();
        r.refuses("of(0, 0)", x -> x.of(0, 0), BAD);
        r.refuses("set(0, 0)", x -> x.set(0, 0), BAD);
        r.refuses("take(0)", x -> x.take(0), BAD);
        r.refuses("turn(1)", x -> x.turn(1), BAD);
        r.refuses("mend(0, 0, 1)", x -> x.mend(0, 0, 1), BAD);
        r.refuses("broken()", BothBeside::broken, NOT);
        r.refuses("makeUp(0)", x -> x.makeUp(0), NOT);
        r.refuses("soldOn(0)", x -> x.soldOn(0), NOT);
        r.refuses("worth(1, 0)", x -> x.worth(1, 0), VOID);
        r.refuses("fewest(0)", x -> x.fewest(0), NOTHING_THERE);
        r.refuses("book(0, -1)", x -> x.book(0, -1), NOTHING_THERE);
        r.refuses("mixed(1, 1, 0)", x -> x.mixed(1, 1, 0), BAD);
        r.refuses("back()", BothBeside::back, STATE);
        r.refuses("undo()", BothBeside::undo, STATE);
        r.refuses("redo()", BothBeside::redo, STATE);
        r.refuses("keep(0, 0)", x -> x.keep(0, 0), BAD);
        r.refuses("put(0, 0, 1)", x -> x.put(0, 0, 1), NOTHING_THERE);
        r.refuses("element(0, 0)", x -> x.element(0, 0), Long.MIN_VALUE);
        r.refuses("shift(0, 0, 1, 0, 0)", x -> x.shift(0, 0, 1, 0, 0), NOTHING_THERE);
        r.refuses("taken(0, 0)", x -> x.taken(0, 0), NOTHING_THERE);
    }

    /** As much of all as can be: stones, the row, the tape, changes, bodies. */
    private static BothBeside filled() {
        BothBeside x = standing(1, 2, 3, 4, 5, 6, 7, 8);
        for (int b = 0; b < 50; b++) x.body(b % 8);
        x.image();
        x.turn(7);
        for (int i = 0; i < 41; i++) x.mend(i % 8, 0, 10 + i);
        x.act(5, 3, 4);
        shelves(x);
        feed(x, "12" + "-1".repeat(59));
        return x;
    }

    /** A row of each sort but shorts, a body, and nothing. */
    private static void shelves(BothBeside x) {
        bytes(x, 0, 1, 2, 3);
        x.row(1, LONGS, 3);
        x.put(1, 2, 1L << 40);
        x.row(2, INTS, 3);
        x.put(2, 0, -5);
        x.row(3, BOOLEANS, 3);
        x.put(3, 0, 1);
        x.keep(4, 1);
    }

    private static void full() {
        EdgesOfRefusals r = new EdgesOfRefusals("full", EdgesOfRefusals::filled);
        r.wrongNumbers();
        r.wrongShelves();
        r.refuses("stone(5)", x -> x.stone(5), FULL);
        r.refuses("stone(0)", x -> x.stone(0), BAD);
        r.refuses("feed('w')", x -> x.feed('w'), FULL);
        r.refuses("feed(256)", x -> x.feed(256), BAD);
        r.refuses("body(1)", x -> x.body(1), FULL);
        r.refuses("body(8)", x -> x.body(8), BAD);
        r.refuses("set(0, 0)", x -> x.set(0, 0), STATE);
        r.refuses("set(8, 0)", x -> x.set(8, 0), BAD);
        r.refuses("set(0, 9)", x -> x.set(0, 9), BAD);
        r.refuses("take(8)", x -> x.take(8), BAD);
        r.refuses("turn(8)", x -> x.turn(8), BAD);
        r.refuses("turn(21)", x -> x.turn(21), BAD);
        r.refuses("redo()", BothBeside::redo, STATE);
        r.refuses("fewest(0)", x -> x.fewest(0), STATE);
        r.refuses("rows(256, -1)", x -> x.rows(256, -1), BAD);
        r.refuses("rows(255, 8)", x -> x.rows(255, 8), BAD);
        r.refuses("ends(256)", x -> x.ends(256), BAD);
        r.refuses("aside(256)", x -> x.aside(256), BAD);
        r.refuses("worth(254, 0)", x -> x.worth(254, 0), VOID);
        r.refuses("ounces(8)", x -> x.ounces(8), BAD);
        r.refuses("mixed(1, 51, -1)", x -> x.mixed(1, 51, -1), BAD);
        r.refuses("keep(0, 50)", x -> x.keep(0, 50), BAD);
    }

    /** Two of three stones in the row, a change undone, one that is not, half a text. */
    private static BothBeside halfWay() {
        BothBeside x = brought(4, 9, 4);
        x.set(0, 0);
        x.set(1, 1);
        x.body(0);
        x.body(3);
        x.image();
        x.turn(1);
        x.mend(0, 0, 8);
        x.mend(0, 0, 7);
        x.undo();
        x.act(1, 3, 4);
        shelves(x);
        feed(x, "w<l");
        return x;
    }

    private static void half() {
        EdgesOfRefusals r = new EdgesOfRefusals("half", EdgesOfRefusals::halfWay);
        r.wrongNumbers();
        r.wrongShelves();
        r.refuses("stone(100)", x -> x.stone(100), BAD);
        r.refuses("set(3, 0)", x -> x.set(3, 0), BAD);
        r.refuses("set(1, 1)", x -> x.set(1, 1), STATE);
        r.refuses("set(2, 3)", x -> x.set(2, 3), BAD);
        r.refuses("take(2)", x -> x.take(2), BAD);
        r.refuses("turn(2)", x -> x.turn(2), BAD);
        r.refuses("turn(11)", x -> x.turn(11), BAD);
        r.refuses("mend(3, 0, 5)", x -> x.mend(3, 0, 5), BAD);
        r.refuses("mend(0, 0, 0)", x -> x.mend(0, 0, 0), BAD);
        r.refuses("mend(0, 0, 100)", x -> x.mend(0, 0, 100), BAD);
        r.refuses("mend(0, 1, 2)", x -> x.mend(0, 1, 2), BAD);
        r.refuses("mend(1, 1, 1)", x -> x.mend(1, 1, 1), BAD);
        r.refuses("of(2, 1)", x -> x.of(2, 1), NOT);
        r.refuses("of(2, 2)", x -> x.of(2, 2), NOT);
        r.refuses("of(2, 10)", x -> x.of(2, 10), BAD);
        r.refuses("rows(8, -1)", x -> x.rows(8, -1), BAD);
        r.refuses("rows(1, 0)", x -> x.rows(1, 0), NOT);
        r.refuses("ends(1)", x -> x.ends(1), NOT);
        r.refuses("ends(8)", x -> x.ends(8), BAD);
        r.refuses("aside(0)", x -> x.aside(0), BAD);
        r.refuses("soldOn(2)", x -> x.soldOn(2), NOT);
        r.refuses("worth(8, 3)", x -> x.worth(8, 3), VOID);
        r.refuses("fewest(0)", x -> x.fewest(0), STATE);
        r.refuses("book(0, 0)", x -> x.book(0, 0), NOT);
        r.refuses("book(0, 2)", x -> x.book(0, 2), BAD);
        r.refuses("mixed(1, 0, -1)", x -> x.mixed(1, 0, -1), BAD);
        r.refuses("mixed(1, 1, 2)", x -> x.mixed(1, 1, 2), BAD);
        r.refuses("keep(0, 2)", x -> x.keep(0, 2), BAD);
    }

    /** What is BAD in each state. */
    private void wrongNumbers() {
        for (int v : new int[] {MIN, -2, MAX}) {
            refuses("stone(" + v + ")", x -> x.stone(v), BAD);
            refuses("stones(" + v + ", 0, 1)", x -> x.stones(v, 0, 1), BAD);
            refuses("stones(0, 0, " + v + ")", x -> x.stones(0, 0, v), BAD);
            refuses("mend(" + v + ", 0, 5)", x -> x.mend(v, 0, 5), BAD);
            refuses("mend(0, " + v + ", 1)", x -> x.mend(0, v, 1), BAD);
            refuses("mend(0, 1, " + v + ")", x -> x.mend(0, 1, v), BAD);
            refuses("of(" + v + ", 0)", x -> x.of(v, 0), BAD);
            refuses("of(0, " + v + ")", x -> x.of(0, v), BAD);
            refuses("feed(" + v + ")", x -> x.feed(v), BAD);
            refuses("set(" + v + ", 0)", x -> x.set(v, 0), BAD);
            refuses("set(0, " + v + ")", x -> x.set(0, v), BAD);
            refuses("take(" + v + ")", x -> x.take(v), BAD);
            refuses("turn(" + v + ")", x -> x.turn(v), BAD);
            refuses("ways(" + v + ")", x -> x.ways(v), BAD);
            refuses("rows(" + v + ", -1)", x -> x.rows(v, -1), BAD);
            refuses("rows(1, " + v + ")", x -> x.rows(1, v), BAD);
            refuses("ounces(" + v + ")", x -> x.ounces(v), BAD);
            refuses("makeUp(" + v + ")", x -> x.makeUp(v), BAD);
            refuses("ends(" + v + ")", x -> x.ends(v), BAD);
            refuses("aside(" + v + ")", x -> x.aside(v), BAD);
            refuses("worth(" + v + ", 0)", x -> x.worth(v, 0), VOID);
            refuses("worth(1, " + v + ")", x -> x.worth(1, v), VOID);
            refuses("fewest(" + v + ")", x -> x.fewest(v), BAD);
            refuses("book(" + v + ", -1)", x -> x.book(v, -1), BAD);
            refuses("book(0, " + v + ")", x -> x.book(0, v), BAD);
            refuses("mixed(1, " + v + ", -1)", x -> x.mixed(1, v, -1), BAD);
            refuses("mixed(1, 1, " + v + ")", x -> x.mixed(1, 1, v), BAD);
            refuses("body(" + v + ")", x -> x.body(v), BAD);
            refuses("trace(" + v + ")", x -> x.trace(v), BAD);
            refuses("keep(" + v + ", -1)", x -> x.keep(v, -1), BAD);
            refuses("keep(0, " + v + ")", x -> x.keep(0, v), BAD);
            refuses("row(" + v + ", 0, 1)", x -> x.row(v, BYTES, 1), BAD);
            refuses("row(0, " + v + ", 1)", x -> x.row(0, v, 1), BAD);
            refuses("put(" + v + ", 0, 1)", x -> x.put(v, 0, 1), BAD);
            refuses("element(" + v + ", 0)", x -> x.element(v, 0), Long.MIN_VALUE);
            refuses("shift(" + v + ", 0, 0, 0, 1)", x -> x.shift(v, 0, 0, 0, 1), BAD);
            refuses("taken(" + v + ", 0)", x -> x.taken(v, 0), BAD);
            refuses("taken(0, " + v + ")", x -> x.taken(0, v), BAD);
            refuses("count(" + v + ")", x -> x.count(v), BAD);
        }
        refuses("soldOn(-2)", x -> x.soldOn(-2), BAD);
        refuses("row(0, 0, -1)", x -> x.row(0, BYTES, -1), BELOW_ZERO);
        refuses("row(4, 0, -1)", x -> x.row(4, BYTES, -1), BELOW_ZERO);
        refuses("row(0, 0, 61)", x -> x.row(0, BYTES, 61), BAD);
        refuses("keep(6, -1)", x -> x.keep(6, -1), BAD);
    }

    /** What is refused of the shelves that shelves() fills. */
    private void wrongShelves() {
        for (int i : new int[] {MIN, -1, 3, MAX}) {
            refuses("put(0, " + i + ", 9)", x -> x.put(0, i, 9), NO_PLACE);
            refuses("element(1, " + i + ")", x -> x.element(1, i), Long.MIN_VALUE);
            refuses("shift(0, " + i + ", 0, 0, 1)", x -> x.shift(0, i, 0, 0, 1), NO_PLACE);
            refuses("shift(0, 0, 0, " + i + ", 1)", x -> x.shift(0, 0, 0, i, 1), NO_PLACE);
        }
        refuses("shift(0, 0, 0, 1, 3), the last has no place", x -> x.shift(0, 0, 0, 1, 3), NO_PLACE);
        refuses("shift(0, 1, 0, 0, 3), the last is not there", x -> x.shift(0, 1, 0, 0, 3), NO_PLACE);
        refuses("shift(0, 0, 0, 1, -1)", x -> x.shift(0, 0, 0, 1, -1), NO_PLACE);
        refuses("shift(0, 0, 1, 0, 1)", x -> x.shift(0, 0, 1, 0, 1), OTHER_KIND);
        refuses("shift(0, 0, 4, 0, 1)", x -> x.shift(0, 0, 4, 0, 1), OTHER_KIND);
        refuses("shift(0, 0, 5, 0, 1)", x -> x.shift(0, 0, 5, 0, 1), NOTHING_THERE);
        refuses("put(4, 0, 1)", x -> x.put(4, 0, 1), OTHER_KIND);
        refuses("put(5, 0, 1)", x -> x.put(5, 0, 1), NOTHING_THERE);
        refuses("taken(4, 7)", x -> x.taken(4, 7), OTHER_KIND);
        refuses("taken(0, 0)", x -> x.taken(0, 0), OTHER_KIND);
        refuses("taken(5, 0)", x -> x.taken(5, 0), NOTHING_THERE);
        refuses("stones(1, 0, 1)", x -> x.stones(1, 0, 1), OTHER_KIND);
        refuses("stones(4, 0, 1)", x -> x.stones(4, 0, 1), OTHER_KIND);
        refuses("fewest(1)", x -> x.fewest(1), OTHER_KIND);
        refuses("fewest(4)", x -> x.fewest(4), OTHER_KIND);
        refuses("fewest(5)", x -> x.fewest(5), NOTHING_THERE);
        refuses("book(2, -1)", x -> x.book(2, -1), OTHER_KIND);
        refuses("book(4, -1)", x -> x.book(4, -1), OTHER_KIND);
        refuses("book(5, -1)", x -> x.book(5, -1), NOTHING_THERE);
        refuses("row(0, 5, 1)", x -> x.row(0, 5, 1), BAD);
        refuses("row(4, 0, 61)", x -> x.row(4, BYTES, 61), BAD);
    }

    private static void notAsTold() {
        EdgesOfRefusals r = new EdgesOfRefusals("of one stone", () -> {
            BothBeside x = standing(9);
            bytes(x, 0, 0);
            return x;
        });
        r.refuses("ounces(-1)", x -> x.ounces(-1), NOT);
        r.refuses("ounces(0)", x -> x.ounces(0), NOT);
        r.refuses("rows(1, 0)", x -> x.rows(1, 0), NOT);
        r.refuses("ends(1)", x -> x.ends(1), NOT);
        r.refuses("book(0, 0)", x -> x.book(0, 0), NOT);
        r.refuses("soldOn(1)", x -> x.soldOn(1), NOT);
        r.refuses("back()", BothBeside::back, STATE);
        r.refuses("undo()", BothBeside::undo, STATE);
        r.refuses("redo()", BothBeside::redo, STATE);
        EdgesOfRefusals law = new EdgesOfRefusals("by a law", () -> {
            BothBeside x = under("s=k", 4);
            bytes(x, 0, 0, 1, 3, 2);
            return x;
        });
        law.refuses("makeUp(0)", x -> x.makeUp(0), NOT);
        law.refuses("makeUp(1)", x -> x.makeUp(1), NOT);
        law.refuses("fewest(0)", x -> x.fewest(0), NOT);
        law.refuses("broken()", BothBeside::broken, NOT);
    }

    private static void thoughtsChangeNothing() {
        EdgesOfRefusals r = new EdgesOfRefusals("asked", EdgesOfRefusals::halfWay);
        r.refuses("maySell()", BothBeside::maySell, 0);
        r.refuses("ways(0)", x -> x.ways(0), 0);
        r.refuses("ways(1)", x -> x.ways(1), 0);
        r.refuses("rows(7, -1)", x -> x.rows(7, -1), 2);
        r.refuses("ounces(-1)", x -> x.ounces(-1), 1);
        r.refuses("makeUp(0)", x -> x.makeUp(0), 1);
        r.refuses("ends(7)", x -> x.ends(7), 0);
        r.refuses("aside(3)", x -> x.aside(3), 3);
        r.refuses("soldOn(-1)", x -> x.soldOn(-1), 0);
        r.refuses("worth(7, 0)", x -> x.worth(7, 0), 2);
        r.refuses("mixed(1, 50, -1)", x -> x.mixed(1, 50, -1), 0);
    }

    /** Calls of one object do not come to another one. */
    private static void besideOneAnother() {
        BothBeside ahead = new BothBeside();
        List<Long> bare = seen(new BothBeside());
        BothBeside full = filled();
        due("an object made ahead is bare", seen(ahead).equals(bare) ? 0 : 1, 0);
        due("an object made behind is bare", seen(new BothBeside()).equals(bare) ? 0 : 1, 0);
        BothBeside half = halfWay();
        due("the full one is as it was", seen(full).equals(seen(filled())) ? 0 : 1, 0);
        due("the half one is as it was", seen(half).equals(seen(halfWay())) ? 0 : 1, 0);
    }
}
