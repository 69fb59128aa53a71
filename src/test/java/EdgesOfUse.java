import java.util.function.ToLongFunction;

/** The edge of an object's use: its 512th call answers as its first one. */
public final class EdgesOfUse extends Edges {
    private static final int CALLS = 512;

    private EdgesOfUse() {
    }

    public static void main(String[] args) {
        says("An object is used for at most 512 calls after it has been made");
        dearest();
        changes();
        laws();
        deeds();
        everyCall();
        Checks.end();
    }

    /** Eight stones, all in the row, and the calls that are left behind that; each of them answers so. */
    private static void again(String call, ToLongFunction<BothBeside> called, long answer) {
        BothBeside x = standing(1, 1, 1, 1, 1, 1, 1, 1);
        int made = 16;
        long first = called.applyAsLong(x);
        due(call + ", the first", first, answer);
        for (made++; made < CALLS - 1; made++) called.applyAsLong(x);
        due(call + ", the 512th call", called.applyAsLong(x), answer);
    }

    private static void dearest() {
        again("rows(255, -1)", x -> x.rows(255, -1), 40320);
        again("worth(255, 7)", x -> x.worth(255, 7), 40320 - 5040);
        again("makeUp(0)", x -> x.makeUp(0), 1);
        again("aside(255)", x -> x.aside(255), 0);
        again("ends(255)", x -> x.ends(255), 0);
        again("soldOn(5)", x -> x.soldOn(5), 5);
        again("ways(1)", x -> x.ways(1), 28);
        again("mixed(7, 50, -1)", x -> x.mixed(7, 50, -1), 50);
        again("ounces(-1)", x -> x.ounces(-1), 0);
        again("maySell()", x -> x.maySell(), 255);
        again("stone(1)", x -> x.stone(1), FULL);
        again("act(0, 3, 5)", x -> x.act(0, 3, 5), 0);
        again("image()", x -> x.image(), 8);
    }

    private static void changes() {
        BothBeside x = standing(5, 5);
        for (int made = 4; made < CALLS - 2; made++) {
            int v = 1 + made % 99;
            due("mend(0, 0, " + v + ")", x.mend(0, 0, v), made == 4 ? 5 : 1 + (made - 1) % 99);
        }
        due("count(3), the 511th call", x.count(3), 40);
        due("undo(), the 512th call", x.undo(), 39);
        BothBeside y = standing(5, 5);
        y.mend(0, 0, 9);
        boolean undone = false;
        for (int made = 5; made < CALLS; made++) {
            due("undo() and redo() in turn", undone ? y.redo() : y.undo(), 0);
            undone = !undone;
        }
    }

    private static void laws() {
        BothBeside x = standing(5, 5);
        int made = 4;
        for (int i = 0; made < CALLS - 4; i++, made += 3) {
            due("feed", x.feed('0' + i % 2), 1);
            due("law()", x.law(), 1);
            due("broken()", x.broken(), i % 2 == 0 ? 0 : NOT);
        }
        BothBeside full = new BothBeside();
        for (int i = 0; i < CALLS; i++) due("feed(49)", full.feed('1'), i < 120 ? i + 1 : FULL);
    }

    private static void deeds() {
        BothBeside x = standing(1, 1, 1, 1, 1, 1, 1, 1);
        for (int made = 16; made < CALLS - 1; made++) due("turn(7)", x.turn(7), 8);
        due("of(0, 22), the 512th call", x.of(0, 22), 8 + CALLS - 17);
        BothBeside y = brought(9);
        int deeds = 0;
        for (int made = 1; made < CALLS - 2; made++) {
            due("set(0, 0) and take(0) in turn", made % 2 == 1 ? y.set(0, 0) : y.take(0), made % 2);
            deeds++;
        }
        due("of(0, 22), the 511th call", y.of(0, 22), deeds);
        due("of(0, 23), the 512th call", y.of(0, 23), (deeds + 1) / 2);
    }

    /** Each call of the face once more as the 512th one, behind the same calls. */
    private static void everyCall() {
        for (int what = 0; what < 36; what++) {
            BothBeside early = busy();
            BothBeside late = busy();
            for (int made = 42; made < CALLS - 1; made++) late.count(made % 6);
            int[] numbers = {1, 0, 1, 0, 1};
            due("call " + what + " as the 512th", Calls.call(late, what, numbers, 3), Calls.call(early, what, numbers, 3));
        }
    }

    /** 42 calls. */
    private static BothBeside busy() {
        BothBeside x = brought(5, 6, 7, 8);
        for (int s = 0; s < 3; s++) x.set(s, 0);
        feed(x, "w<l+r+9");
        x.law();
        feed(x, "w<");
        x.mend(0, 0, 9);
        x.mend(1, 0, 9);
        x.mend(0, 1, 1);
        x.undo();
        x.image();
        x.take(0);
        for (int k = 0; k < 8; k++) x.body(k);
        x.act(5, 3, 2);
        bytes(x, 1, 1, 0);
        bytes(x, 0, 1, 5, 6);
        x.keep(2, 3);
        x.row(3, INTS, 3);
        x.put(3, 1, 77);
        return x;
    }
}
