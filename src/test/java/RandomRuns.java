import java.util.Random;

/** Long runs of calls by fixed seeds, each answer beside the model's. */
public final class RandomRuns {
    private static final int RUNS = 300, CALLS = 512;

    private final Random random;
    private final int run;
    private final BothBeside x = new BothBeside();
    private final Model m = new Model();
    private int calls = 0;

    private RandomRuns(int run) {
        this.run = run;
        this.random = new Random(run);
    }

    public static void main(String[] args) {
        for (int run = 0; run < RUNS; run++) new RandomRuns(run).go();
        Checks.end();
    }

    private void due(String call, long got, long want) {
        calls++;
        Checks.due("run " + run + " call " + calls + ": " + call + (got == want ? "" : " with " + m), got, want);
    }

    private int upTo(int n) {
        return random.nextInt(n);
    }

    /** From -1 to n, now and then one far away. */
    private int about(int n) {
        if (upTo(40) == 0) return random.nextInt();
        return upTo(n + 2) - 1;
    }

    private void go() {
        int heaviest = 1 + upTo(upTo(2) == 0 ? 12 : 99);
        int stones = 3 + upTo(upTo(4) == 0 ? 6 : 4);
        for (int i = 0; i < stones; i++) {
            int w = 1 + upTo(heaviest);
            due("stone(" + w + ")", x.stone(w), m.stone(w));
        }
        for (int i = 0; i < stones; i++) {
            if (upTo(6) == 0) continue;
            int p = upTo(i + 1);
            due("set(" + i + ", " + p + ")", x.set(i, p), m.set(i, p));
        }
        while (calls < CALLS - 130) {
            int group = upTo(20);
            if (group < 3) deed();
            else if (group < 5) numbers();
            else if (group < 11) thought();
            else if (group == 11) dearThought();
            else if (group < 14) acts();
            else if (group < 18) shelf();
            else if (group == 18) told();
            else if (upTo(3) == 0) newLaw();
        }
    }

    private void deed() {
        int a = about(9);
        int b = about(9);
        switch (upTo(7)) {
            case 0: case 1: case 2: due("set(" + a + ", " + b + ")", x.set(a, b), m.set(a, b)); break;
            case 3: due("take(" + a + ")", x.take(a), m.take(a)); break;
            case 4: {
                int ij = upTo(4) == 0 ? about(100) : upTo(7) * 10 + upTo(8);
                due("turn(" + ij + ")", x.turn(ij), m.turn(ij));
                break;
            }
            case 5: due("image()", x.image(), m.image()); break;
            default: due("back()", x.back(), m.back());
        }
    }

    private void numbers() {
        int a = about(8);
        int v = about(upTo(3) == 0 ? 100 : 12);
        int what = about(2);
        int of = new int[] {0, 1, 2, 10, 20, 21, 22, 23, about(26)}[upTo(9)];
        int zero = upTo(5) == 0 ? a : 0;
        switch (upTo(8)) {
            case 0: due("stone(" + v + ")", x.stone(v), m.stone(v)); break;
            case 1: case 2: due("mend(" + a + ", 0, " + v + ")", x.mend(a, 0, v), m.mend(a, 0, v)); break;
            case 3: due("mend(" + zero + ", 1, ..)", x.mend(zero, 1, upTo(2)), m.mend(zero, 1, lastBit())); break;
            case 4: due("undo()", x.undo(), m.undo()); break;
            case 5: due("redo()", x.redo(), m.redo()); break;
            case 6: due("mend(" + zero + ", " + what + ", " + v + ")", x.mend(zero, what, v), m.mend(zero, what, v)); break;
            default: {
                int number = of >= 20 ? zero : a;
                due("of(" + number + ", " + of + ")", x.of(number, of), m.of(number, of));
            }
        }
    }

    /** RING becomes what it became in x. */
    private int lastBit() {
        return asked(x.of(0, 20));
    }

    /** A call of x whose answer is not compared counts among its calls, too. */
    private int asked(int answer) {
        calls++;
        return answer;
    }

    private void thought() {
        int a = about(upTo(2) == 0 ? 8 : 3);
        int set = upTo(3) == 0 ? about(256) : upTo(64);
        switch (upTo(12)) {
            case 0: due("broken()", x.broken(), m.broken()); break;
            case 1: due("maySell()", x.maySell(), m.maySell()); break;
            case 2: due("ways(" + a + ")", x.ways(a), m.ways(a)); break;
            case 3: due("ounces(" + a + ")", x.ounces(a), m.ounces(a)); break;
            case 4: due("ounces(-1)", x.ounces(-1), m.ounces(-1)); break;
            case 5: due("ends(" + set + ")", x.ends(set), m.ends(set)); break;
            case 6: due("soldOn(" + a + ")", x.soldOn(a), m.soldOn(a)); break;
            case 7: {
                int seed = random.nextInt();
                int n = about(51);
                due("mixed(" + seed + ", " + n + ", " + a + ")", x.mixed(seed, n, a), m.mixed(seed, n, a));
                break;
            }
            case 8: due("fewest(" + a + ")", x.fewest(a), m.fewest(a)); break;
            case 9: due("of(0, 21)", x.of(0, 21), m.of(0, 21)); break;
            case 10: due("of(0, 23)", x.of(0, 23), m.of(0, 23)); break;
            default: due("count(" + a + ")", x.count(a), m.count(a));
        }
    }

    /** What the model does slowly. */
    private void dearThought() {
        int a = about(upTo(2) == 0 ? 8 : 3);
        int set = upTo(12) == 0 ? about(256) : upTo(64);
        switch (upTo(6)) {
            case 0: due("rows(" + set + ", " + a + ")", x.rows(set, a), m.rows(set, a)); break;
            case 1: due("rows(" + set + ", -1)", x.rows(set, -1), m.rows(set, -1)); break;
            case 2: due("worth(" + set + ", " + a + ")", x.worth(set, a), m.worth(set, a)); break;
            case 3: due("aside(" + set + ")", x.aside(set), m.aside(set)); break;
            case 4: due("makeUp(" + (a & 1) + ")", x.makeUp(a & 1), m.makeUp(a & 1)); break;
            default: {
                if (asked(x.count(1)) > 6 && upTo(4) != 0) return;
                int s = upTo(6);
                due("book(" + s + ", " + a + ")", x.book(s, a), m.book(s, a));
            }
        }
    }

    private void acts() {
        int a = about(10);
        int k = about(upTo(2) == 0 ? 4 : 8);
        int v = upTo(5) == 0 ? random.nextInt() : about(30);
        switch (upTo(5)) {
            case 0: due("body(" + k + ")", x.body(k), m.body(k)); break;
            case 1: due("trace(" + v + ")", x.trace(v), m.trace(v)); break;
            default: {
                due("act(" + a + ", " + k + ", " + v + ")", x.act(a, k, v), m.act(a, k, v));
                due("count(5)", x.count(5), m.count(5));
                for (int i = 0; i < 3; i++) due("trace(" + i + ")", x.trace(i), m.trace(i));
            }
        }
    }

    private void shelf() {
        int s = about(6);
        int o = upTo(2) == 0 ? s : about(6);
        int i = about(upTo(2) == 0 ? 6 : 60);
        int j = about(8);
        int n = about(upTo(2) == 0 ? 6 : 61);
        int k = about(8);
        long v = upTo(3) == 0 ? random.nextLong() : about(300);
        switch (upTo(8)) {
            case 0: due("keep(" + s + ", " + k + ")", x.keep(s, k), m.keep(s, k)); break;
            case 1: due("row(" + s + ", " + k + ", " + n + ")", x.row(s, k, n), m.row(s, k, n)); break;
            case 2: due("put(" + s + ", " + i + ", " + v + ")", x.put(s, i, v), m.put(s, i, v)); break;
            case 3: due("element(" + s + ", " + i + ")", x.element(s, i), m.element(s, i)); break;
            case 4: case 5:
                due("shift(" + s + ", " + i + ", " + o + ", " + j + ", " + n + ")", x.shift(s, i, o, j, n),
                        m.shift(s, i, o, j, n));
                break;
            case 6: due("taken(" + s + ", " + k + ")", x.taken(s, k), m.taken(s, k)); break;
            default: due("stones(" + s + ", " + i + ", " + j + ")", x.stones(s, i, j), m.stones(s, i, j));
        }
    }

    /** A row of bytes by which fewest() and book() have something to answer. */
    private void told() {
        int s = upTo(6);
        int n = asked(x.count(1));
        due("row(" + s + ", 0, " + n + ")", x.row(s, 0, n), m.row(s, 0, n));
        int[] row = new int[n];
        for (int p = 0; p < n; p++) row[p] = asked(x.of(p, 10));
        for (int p = n - 1; p > 0; p--) {
            int q = upTo(p + 1);
            int kept = row[p];
            row[p] = row[q];
            row[q] = kept;
        }
        boolean gaps = upTo(2) == 0;
        for (int p = 0; p < n; p++) {
            int v = gaps && upTo(2) == 0 ? -1 : row[p];
            due("put(" + s + ", " + p + ", " + v + ")", x.put(s, p, v), m.put(s, p, v));
        }
        due("fewest(" + s + ")", x.fewest(s), m.fewest(s));
        if (n <= 6) {
            due("book(" + s + ", -1)", x.book(s, -1), m.book(s, -1));
            due("book(" + s + ", 0)", x.book(s, 0), m.book(s, 0));
        }
    }

    private void newLaw() {
        String t = upTo(2) == 0 ? Texts.easy(random) : Texts.lines(random);
        if (upTo(4) == 0) t = Texts.spoilt(random, t);
        for (int i = 0; i < t.length() && i < 120; i++) {
            due("feed(" + (int) t.charAt(i) + ")", x.feed(t.charAt(i)), m.feed(t.charAt(i)));
        }
        due("law() of " + t, x.law(), m.law());
    }
}
