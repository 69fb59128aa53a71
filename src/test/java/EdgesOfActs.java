/** The edges of bodies and acts: body, act, trace, and what a body is taken for: keep, taken. */
public final class EdgesOfActs extends Edges {
    private static final int STONE = 0, LIGHT = 1, HELD = 2, HOLDING = 3, ENDS = 4, HEAVY = 5, CHIPPED = 6, SOLD = 7;
    private static final int STANDS = 0, HOLDS = 1, SETS = 2, SELLS = 3;

    private EdgesOfActs() {
    }

    public static void main(String[] args) {
        bodies();
        kinds();
        noSuchAct();
        ofNoKind();
        theLatest();
        theNumber();
        wraps();
        standsOfAll();
        holdsOfAll();
        setsOfAll();
        sellsOfAll();
        traces();
        ownAndAbove();
        fromTheKindAbove();
        traceEnds();
        allAreKept();
        keep();
        taken();
        underAKind();
        Checks.end();
    }

    /** Bodies 0 to 7, each of the kind of its number. */
    private static BothBeside ofEachKind() {
        BothBeside x = new BothBeside();
        for (int k = 0; k < 8; k++) x.body(k);
        return x;
    }

    private static void bodies() {
        says("BODIES 0 .. 49 are kept by call");
        says("A BODY of a KIND (0 .. 7) is kept: its number. BAD, FULL.");
        BothBeside x = new BothBeside();
        due("act(0, 0, 5), none is kept", x.act(0, 0, 5), 0);
        for (int b = 0; b < 50; b++) {
            due("count(4)", x.count(4), b);
            due("body(" + b % 8 + ")", x.body(b % 8), b);
        }
        due("body(0), the 51st", x.body(0), FULL);
        due("body(7), the 51st", x.body(7), FULL);
        for (int k : new int[] {-1, 8, MIN, MAX}) due("body(" + k + "), BAD ahead of FULL", x.body(k), BAD);
        due("count(4)", x.count(4), 50);
        due("act(49, 0, 5), of LIGHT", x.act(49, STANDS, 5), 5 + 49 + 3);
        due("act(0, 0, 5), of STONE", x.act(0, STANDS, 5), 5);
        for (int b : new int[] {-1, 50, MIN, MAX}) due("act(" + b + ", 0, 5)", x.act(b, STANDS, 5), 0);
    }

    private static void kinds() {
        says("of KINDS: 0 STONE; 1 LIGHT under STONE; 2 HELD under STONE; 3 HOLDING under HELD; 4 ENDS under LIGHT; 5 HEAVY under HOLDING; 6 CHIPPED under STONE; 7 SOLD under CHIPPED.");
        BothBeside x = new BothBeside();
        for (int k : new int[] {-1, 8, -8, 256, MIN, MAX}) due("body(" + k + ")", x.body(k), BAD);
        due("count(4)", x.count(4), 0);
        for (int k = 0; k < 8; k++) due("body(" + k + ")", x.body(k), k);
    }

    private static void noSuchAct() {
        says("An ACT (0 .. 3) of a BODY with x. 0, and no TRACE then: no such BODY, ACT.");
        BothBeside x = ofEachKind();
        int[][] none = {{8, STANDS}, {-1, STANDS}, {MIN, HOLDS}, {MAX, SETS}, {0, -1}, {0, 4}, {7, MIN}, {7, MAX}, {8, 4}, {-1, -1}};
        for (int[] a : none) {
            due("act(6, 3, 5) ahead", x.act(6, SELLS, 5), 44 - 7);
            due("count(5) ahead", x.count(5), 5);
            due("act(" + a[0] + ", " + a[1] + ", 5)", x.act(a[0], a[1], 5), 0);
            due("no TRACE then, count(5)", x.count(5), 0);
            due("no TRACE then, trace(0)", x.trace(0), BAD);
        }
        for (int b = 0; b < 8; b++) {
            for (int a = 0; a < 4; a++) {
                x.act(b, a, 5);
                due("act(" + b + ", " + a + ", 5), count(5) is not 0", x.count(5) > 0 ? 1 : 0, 1);
            }
        }
        BothBeside bare = new BothBeside();
        due("no body, act(0, 0, 5)", bare.act(0, STANDS, 5), 0);
    }

    private static void ofNoKind() {
        says("0, and no TRACE then: no such BODY, ACT.");
        BothBeside x = ofEachKind();
        for (int b = 0; b < 8; b++) {
            for (int act : new int[] {-1, 4, -2, 5, 8, MIN, MAX}) {
                due("act(" + b + ", " + act + ", 9)", x.act(b, act, 9), 0);
                due("act(" + b + ", " + act + ", 9), count(5)", x.count(5), 0);
            }
        }
        for (int b : new int[] {-1, 8, 49, 50, MIN, MAX}) {
            for (int act = 0; act < 4; act++) {
                due("act(" + b + ", " + act + ", 9)", x.act(b, act, 9), 0);
                due("act(" + b + ", " + act + ", 9), count(5)", x.count(5), 0);
            }
        }
    }

    private static void theLatest() {
        says("THE TRACE: numbers of the bodies that ran in the latest act(), as they began");
        BothBeside x = ofEachKind();
        x.act(5, SELLS, 1);
        due("count(5)", x.count(5), 10);
        x.act(0, STANDS, 1);
        due("count(5), of the latest alone", x.count(5), 1);
        due("trace(0)", x.trace(0), 1);
        due("trace(1), nothing of the one before", x.trace(1), BAD);
        x.body(0);
        x.keep(0, 0);
        x.taken(0, 0);
        due("trace(0), other calls leave it", x.trace(0), 1);
        due("count(5), other calls leave it", x.count(5), 1);
    }

    private static void theNumber() {
        says("n its number.");
        BothBeside x = new BothBeside();
        for (int b = 0; b < 50; b++) {
            x.body(STONE);
            due("act(" + b + ", 0, 100)", x.act(b, STANDS, 100), 100 + b);
            due("act(" + b + ", 2, 100)", x.act(b, SETS, 100), 100 ^ b);
        }
        due("act(1, 0, 100)", x.act(1, STANDS, 100), 101);
    }

    private static void wraps() {
        says("ACTS with x (an int that wraps)");
        BothBeside x = ofEachKind();
        due("MAX + 3 of LIGHT", x.act(1, STANDS, MAX), MIN + 3);
        due("MAX - 4 + 1 + 3 of LIGHT", x.act(1, STANDS, MAX - 4), MAX);
        due("MAX - 3 + 1 + 3 of LIGHT", x.act(1, STANDS, MAX - 3), MIN);
        due("MAX * 2 of STONE", x.act(0, HOLDS, MAX), -2);
        due("MIN * 2 of STONE", x.act(0, HOLDS, MIN), 0);
        due("2 to the 30th * 2 of STONE", x.act(0, HOLDS, 1 << 30), MIN);
        due("-MIN of HELD", x.act(2, HOLDS, (1 << 30) - 2), MIN);
        due("MAX + 1 of HOLDING", x.act(3, HOLDS, MAX), -(MIN + 3) * 2);
        due("MAX + 1 of HOLDING, sets not", x.act(3, SETS, MAX), (MAX ^ 3) * 3);
        due("MIN ^ 0 of STONE", x.act(0, SETS, MIN), MIN);
        due("MIN - 1 of STONE", x.act(0, SELLS, MIN), -1);
        due("2 to the 30th, MIN - 1, of STONE", x.act(0, SELLS, 1 << 30), MAX);
        due("MIN - 1 of SOLD", x.act(7, STANDS, -7 + (1 << 30)), MAX);
        due("MAX ^ n, times 3, of HEAVY", x.act(5, SETS, MAX), (MAX ^ 5) * 3 - 7);
    }

    /** What each kind answers, x = 20, and each body its own number, which is its kind. */
    private static void ofAll(int act, int... answers) {
        BothBeside x = ofEachKind();
        for (int k = 0; k < 8; k++) due("act(" + k + ", " + act + ", 20)", x.act(k, act, 20), answers[k]);
    }

    private static void standsOfAll() {
        says("1 stands: x + n.");
        says("LIGHT: 20 stands: super.stands(x) + 3.");
        says("CHIPPED: 70 stands: super.stands(x) * 2.");
        says("81 stands: super.stands(x) - 1.");
        ofAll(STANDS, 20, 21 + 3, 22, 23, 24 + 3, 25, 26 * 2, 27 * 2 - 1);
    }

    private static void holdsOfAll() {
        says("STONE: 10 holds: stands(x) * 2.");
        says("HELD: 30 holds: -super.holds(x).");
        says("41 holds: super.holds(x + 1).");
        says("SOLD: 80 holds: super.holds(x) + sets(2).");
        ofAll(HOLDS, 40, 24 * 2, -22 * 2, -24 * 2, 27 * 2, -26 * 2, 52 * 2, 53 * 2 + (2 ^ 7));
    }

    private static void setsOfAll() {
        says("11 sets: x ^ n.");
        says("HOLDING: 40 sets: super.sets(x) * 3.");
        says("HEAVY: 60 sets: super.sets(x) - stands(2).");
        ofAll(SETS, 20, 21, 22, 23 * 3, 20 ^ 4, (20 ^ 5) * 3 - 7, 20 ^ 6, 20 ^ 7);
    }

    private static void sellsOfAll() {
        says("2 sells: holds(x) - sets(1).");
        says("ENDS: 50 sells: super.sells(x) ^ 5.");
        says("61 sells: super.sells(x) + 1.");
        ofAll(SELLS, 40 - 1, 48, -44 - 3, -48 - 2 * 3, (54 - 5) ^ 5, -52 - (4 * 3 - 7) + 1, 104 - 7, 106 + 5 - 6);
    }

    private static void traces() {
        says("as they began");
        int[][][] traces = {
            {{1}, {10, 1}, {11}, {2, 10, 1, 11}},
            {{20, 1}, {10, 20, 1}, {11}, {2, 10, 20, 1, 11}},
            {{1}, {30, 10, 1}, {11}, {2, 30, 10, 1, 11}},
            {{1}, {41, 30, 10, 1}, {40, 11}, {2, 41, 30, 10, 1, 40, 11}},
            {{20, 1}, {10, 20, 1}, {11}, {50, 2, 10, 20, 1, 11}},
            {{1}, {41, 30, 10, 1}, {60, 40, 11, 1}, {61, 2, 41, 30, 10, 1, 60, 40, 11, 1}},
            {{70, 1}, {10, 70, 1}, {11}, {2, 10, 70, 1, 11}},
            {{81, 70, 1}, {80, 10, 81, 70, 1, 11}, {11}, {2, 80, 10, 81, 70, 1, 11, 11}}};
        for (int k = 0; k < 8; k++) {
            for (int a = 0; a < 4; a++) traceIs(k, a, traces[k][a]);
        }
    }

    private static void traceIs(int kind, int act, int... numbers) {
        BothBeside x = ofEachKind();
        x.act(kind, act, 20);
        String call = "act(" + kind + ", " + act + ", 20): ";
        due(call + "count(5)", x.count(5), numbers.length);
        for (int i = 0; i < numbers.length; i++) due(call + "trace(" + i + ")", x.trace(i), numbers[i]);
        due(call + "trace(" + numbers.length + ")", x.trace(numbers.length), BAD);
    }

    /** Which body of an act each kind has, or the next kind above. */
    private static void ownAndAbove() {
        says("stands(..) and so on: the body of its own KIND, or of the next KIND above that has one");
        int[][] first = {{1, 10, 11, 2}, {20, 10, 11, 2}, {1, 30, 11, 2}, {1, 41, 40, 2}, {20, 10, 11, 50}, {1, 41, 60, 61},
            {70, 10, 11, 2}, {81, 80, 11, 2}};
        BothBeside x = ofEachKind();
        for (int k = 0; k < 8; k++) {
            for (int a = 0; a < 4; a++) {
                x.act(k, a, 1);
                due("act(" + k + ", " + a + ", 1), trace(0)", x.trace(0), first[k][a]);
            }
        }
    }

    private static void fromTheKindAbove() {
        says("super: from the KIND above the body's on.");
        BothBeside x = ofEachKind();
        due("LIGHT above ENDS is no super of itself, act(4, 0, 1)", x.act(ENDS, STANDS, 1), 1 + 4 + 3);
        due("count(5)", x.count(5), 2);
        due("HOLDING above HEAVY, act(5, 1, 1)", x.act(HEAVY, HOLDS, 1), -(2 + 5) * 2);
        due("count(5)", x.count(5), 4);
        due("trace(1), HELD above the body's KIND, not the body's own act again", x.trace(1), 30);
        due("STONE above HELD, over HOLDING, act(5, 2, 1)", x.act(HEAVY, SETS, 1), (1 ^ 5) * 3 - 7);
        due("trace(1)", x.trace(1), 40);
        due("trace(2)", x.trace(2), 11);
        due("SELLS of STONE above HEAVY, act(5, 3, 0)", x.act(HEAVY, SELLS, 0), -12 - 5 + 1);
        due("trace(1)", x.trace(1), 2);
        due("CHIPPED above SOLD, act(7, 0, 1)", x.act(SOLD, STANDS, 1), 8 * 2 - 1);
        due("trace(1)", x.trace(1), 70);
    }

    private static void allAreKept() {
        says("the first 24 are kept.");
        BothBeside x = ofEachKind();
        for (int k = 0; k < 8; k++) {
            for (int a = 0; a < 4; a++) {
                x.act(k, a, 3);
                int ran = x.count(5);
                due("act(" + k + ", " + a + ", 3), as many as that are kept", ran <= 24 ? 0 : 1, 0);
                due("act(" + k + ", " + a + ", 3), the last that ran is kept", x.trace(ran - 1) > 0 ? 1 : 0, 1);
                due("act(" + k + ", " + a + ", 3), trace(24)", x.trace(24), BAD);
            }
        }
    }

    private static void traceEnds() {
        says("THE TRACE's i-th body. BAD.");
        BothBeside x = ofEachKind();
        due("no act, trace(0)", x.trace(0), BAD);
        due("the longest there is, of HEAVY", x.act(HEAVY, SELLS, 20), -56);
        due("trace(9), the last", x.trace(9), 1);
        for (int i : new int[] {-1, 10, 23, 24, 25, MIN, MAX}) due("trace(" + i + ")", x.trace(i), BAD);
    }

    private static void keep() {
        says("A SHELF holds nothing (body -1), or a BODY: 1. BAD.");
        BothBeside x = new BothBeside();
        due("no body, keep(0, 0)", x.keep(0, 0), BAD);
        due("nothing, keep(0, -1)", x.keep(0, -1), 1);
        x.body(HEAVY);
        x.body(SOLD);
        for (int b : new int[] {-2, 2, 50, MIN, MAX}) due("keep(0, " + b + ")", x.keep(0, b), BAD);
        for (int s : new int[] {-1, 6, MIN, MAX}) {
            due("keep(" + s + ", 0)", x.keep(s, 0), BAD);
            due("keep(" + s + ", -1)", x.keep(s, -1), BAD);
        }
        for (int s = 0; s < 6; s++) {
            due("keep(" + s + ", 1)", x.keep(s, 1), 1);
            due("taken(" + s + ", 7)", x.taken(s, SOLD), SOLD);
        }
        due("keep(5, 0), the other one", x.keep(5, 0), 1);
        due("taken(5, 5)", x.taken(5, HEAVY), HEAVY);
        due("taken(4, 7)", x.taken(4, SOLD), SOLD);
        due("keep(5, -1)", x.keep(5, -1), 1);
        due("taken(5, 5)", x.taken(5, HEAVY), NOTHING_THERE);
        due("the body stays", x.act(0, STANDS, 4), 4);
        for (int b = 2; b < 50; b++) x.body(LIGHT);
        due("keep(0, 49), the last there is", x.keep(0, 49), 1);
        due("keep(0, 50)", x.keep(0, 50), BAD);
    }

    private static void taken() {
        says("What a SHELF holds, taken for a BODY of KIND k (0 .. 7), or under it: its KIND. BAD, -11, -12.");
        BothBeside x = new BothBeside();
        for (int s = 0; s < 6; s++) due("nothing, taken(" + s + ", 0)", x.taken(s, STONE), NOTHING_THERE);
        for (int s : new int[] {-1, 6, MIN, MAX}) due("taken(" + s + ", 0)", x.taken(s, STONE), BAD);
        for (int k : new int[] {-1, 8, MIN, MAX}) due("nothing, BAD ahead of -11, taken(0, " + k + ")", x.taken(0, k), BAD);
        x.body(LIGHT);
        x.keep(0, 0);
        for (int k : new int[] {-1, 8, MIN, MAX}) due("a body, taken(0, " + k + ")", x.taken(0, k), BAD);
        for (int sort = BYTES; sort <= BOOLEANS; sort++) {
            x.row(1, sort, 3);
            for (int k = 0; k < 8; k++) due("a ROW of sort " + sort + ", taken(1, " + k + ")", x.taken(1, k), OTHER_KIND);
        }
        x.row(1, BYTES, 0);
        due("a ROW of none, taken(1, 0)", x.taken(1, STONE), OTHER_KIND);
        for (int k : new int[] {-1, 8}) due("a ROW, BAD ahead of -12, taken(1, " + k + ")", x.taken(1, k), BAD);
    }

    private static void underAKind() {
        says("taken for a BODY of KIND k (0 .. 7), or under it: its KIND.");
        boolean[][] under = new boolean[8][8];
        int[][] chains = {{STONE}, {LIGHT, STONE}, {HELD, STONE}, {HOLDING, HELD, STONE}, {ENDS, LIGHT, STONE},
            {HEAVY, HOLDING, HELD, STONE}, {CHIPPED, STONE}, {SOLD, CHIPPED, STONE}};
        for (int[] chain : chains) {
            for (int k : chain) under[chain[0]][k] = true;
        }
        BothBeside x = ofEachKind();
        for (int b = 0; b < 8; b++) {
            x.keep(b % 6, b);
            for (int k = 0; k < 8; k++) {
                due("of KIND " + b + " for KIND " + k, x.taken(b % 6, k), under[b][k] ? b : OTHER_KIND);
            }
        }
    }
}
