/** The edges of part 1, but for the text of the law: stones, places, the ring, what is lawful plainly; stone, of. */
public final class EdgesOfStones extends Edges {
    private EdgesOfStones() {
    }

    public static void main(String[] args) {
        constants();
        bareQuay();
        numbers();
        weights();
        eightAtMost();
        places();
        ring();
        ends();
        twoInRing();
        oneInRing();
        noneBeside();
        plainly();
        all();
        whatOf();
        placeOf();
        lawfulOf();
        ofThePlace();
        ofNumberNought();
        Checks.end();
    }

    private static void constants() {
        says("public static final int BAD = -1, NOT = -2, FULL = -3, STATE = -5, VOID = -2000000000;");
        due("BAD", BothBeside.BAD, -1);
        due("NOT", BothBeside.NOT, -2);
        due("FULL", BothBeside.FULL, -3);
        due("STATE", BothBeside.STATE, -5);
        due("VOID", BothBeside.VOID, -2000000000);
    }

    private static void bareQuay() {
        says("`BothBeside()`: A bare quay.");
        for (int what = 0; what <= 5; what++) due("count(" + what + ")", new BothBeside().count(what), 0);
        for (int what = 0; what <= 2; what++) due("of(0, " + what + ")", new BothBeside().of(0, what), BAD);
        BothBeside x = new BothBeside();
        due("of(0, 10)", x.of(0, 10), BAD);
        due("of(0, 20), RING", x.of(0, 20), 0);
        due("of(0, 21), none is lawful", x.of(0, 21), 1);
        due("of(0, 22), deeds", x.of(0, 22), 0);
        due("of(0, 23), those not lawful", x.of(0, 23), 0);
        due("broken()", x.broken(), NOT);
        due("maySell()", x.maySell(), 0);
        due("back()", x.back(), STATE);
        due("undo()", x.undo(), STATE);
        due("redo()", x.redo(), STATE);
        due("act(0, 0, 1), no body", x.act(0, 0, 1), 0);
        due("trace(0)", x.trace(0), BAD);
        due("law(), no byte", x.law(), -100);
        for (int s = 0; s < 6; s++) due("put(" + s + ", 0, 1)", x.put(s, 0, 1), NOTHING_THERE);
    }

    private static void numbers() {
        says("STONES 0 .. 7, as they come");
        BothBeside x = new BothBeside();
        for (int s = 0; s < 8; s++) {
            due("of(" + s + ", 0) ahead of it", x.of(s, 0), BAD);
            due("stone(" + (90 - s) + ")", x.stone(90 - s), s);
            due("of(" + s + ", 0)", x.of(s, 0), 90 - s);
        }
        for (int s : new int[] {-1, 8, MIN, MAX}) due("of(" + s + ", 0)", x.of(s, 0), BAD);
        for (int s : new int[] {-1, 8, MIN, MAX}) due("set(" + s + ", 0)", x.set(s, 0), BAD);
        due("set(7, 0)", x.set(7, 0), 1);
        due("set(0, 0)", x.set(0, 0), 2);
    }

    private static void weights() {
        says("WEIGHT (1 .. 99)");
        BothBeside x = new BothBeside();
        for (int w : new int[] {0, 100, -1, -99, 257, MIN, MAX}) due("stone(" + w + ")", x.stone(w), BAD);
        due("count(0)", x.count(0), 0);
        due("stone(1)", x.stone(1), 0);
        due("stone(99)", x.stone(99), 1);
        for (int w : new int[] {0, 100, -1, -99, 257, MIN, MAX}) due("mend(0, 0, " + w + ")", x.mend(0, 0, w), BAD);
        due("mend(0, 0, 99)", x.mend(0, 0, 99), 1);
        due("mend(0, 0, 1)", x.mend(0, 0, 1), 99);
        due("of(0, 0)", x.of(0, 0), 1);
        due("of(1, 0)", x.of(1, 0), 99);
        bytes(x, 0, 0, 1);
        due("stones of 0", x.stones(0, 0, 1), 0);
        bytes(x, 0, 100, 1);
        due("stones of 100", x.stones(0, 0, 1), 0);
        bytes(x, 0, 255, 1);
        due("stones of 255, which is -1", x.stones(0, 0, 1), 0);
        bytes(x, 0, 99, 1);
        due("stones of 99, 1", x.stones(0, 0, 2), 2);
    }

    private static void eightAtMost() {
        says("A STONE (not in THE ROW): its number. BAD, FULL: 8.");
        BothBeside x = new BothBeside();
        for (int s = 0; s < 8; s++) {
            due("stone(5)", x.stone(5), s);
            due("of(" + s + ", 1), not in THE ROW", x.of(s, 1), NOT);
        }
        due("count(1)", x.count(1), 0);
        due("stone(5), the ninth", x.stone(5), FULL);
        due("stone(5), the tenth", x.stone(5), FULL);
        due("stone(0), BAD ahead of FULL", x.stone(0), BAD);
        due("stone(100), BAD ahead of FULL", x.stone(100), BAD);
        due("count(0)", x.count(0), 8);
        due("of(7, 0)", x.of(7, 0), 5);
    }

    private static void places() {
        says("PLACES 0 on from the left (none at first)");
        BothBeside x = brought(1, 2, 3, 4, 5, 6, 7, 8);
        due("of(0, 10), none at first", x.of(0, 10), BAD);
        due("take(0), none at first", x.take(0), BAD);
        for (int s = 0; s < 8; s++) {
            due("of(" + s + ", 10) ahead of it", x.of(s, 10), BAD);
            due("set(" + s + ", " + s + ")", x.set(s, s), s + 1);
            due("of(" + s + ", 10)", x.of(s, 10), s);
        }
        due("of(8, 10)", x.of(8, 10), BAD);
        due("of(-1, 10)", x.of(-1, 10), BAD);
        due("count(1)", x.count(1), 8);
    }

    private static void ring() {
        says("RING (0, 1; 0 at first)");
        BothBeside x = new BothBeside();
        due("of(0, 20) at first", x.of(0, 20), 0);
        for (int v : new int[] {-1, 2, 256, MIN, MAX}) due("mend(0, 1, " + v + ")", x.mend(0, 1, v), BAD);
        due("mend(0, 1, 1)", x.mend(0, 1, 1), 0);
        due("of(0, 20)", x.of(0, 20), 1);
        for (int v : new int[] {-1, 2, 256, MIN, MAX}) due("mend(0, 1, " + v + ")", x.mend(0, 1, v), BAD);
        due("mend(0, 1, 0)", x.mend(0, 1, 0), 1);
        due("of(0, 20)", x.of(0, 20), 0);
    }

    private static void ends() {
        says("with 1 the last one and the first one are beside one another");
        BothBeside first = standing(3, 2, 1);
        due("3 2 1, without", first.broken(), 0);
        first.mend(0, 1, 1);
        due("3 2 1, the last one is beside the first", first.broken(), NOT);
        BothBeside last = standing(1, 2, 3);
        due("1 2 3, without", last.broken(), 2);
        last.mend(0, 1, 1);
        due("1 2 3, the first one is beside the last", last.broken(), NOT);
        BothBeside four = inRing(3, 1, 1, 1);
        due("3 1 1 1, the third one is not", four.of(0, 2), 0);
        BothBeside eight = inRing(1, 2, 3, 4, 5, 6, 7, 99);
        law(eight, "k=0?l=99&r=2;k=7?l=7&r=1;l=w-1&(k=6|r=w+1)");
        due("eight in a ring", eight.of(0, 21), 1);
        eight.mend(0, 1, 0);
        due("eight without, the first", eight.of(0, 2), 0);
        due("eight without, the last", eight.of(7, 2), 0);
    }

    private static void twoInRing() {
        says("of two stones each is both neighbours of the other");
        BothBeside x = inRing(4, 2);
        due("4 2", x.of(0, 2), 1);
        due("2 4", x.of(1, 2), 1);
        x.mend(0, 0, 5);
        due("5 2, 5 above 2 + 2", x.of(0, 2), 0);
        law(x, "l=r&l+w=7");
        due("left and right are one", x.of(0, 21), 1);
        x.mend(0, 1, 0);
        law(x, "k=0?l=0&r=2;l=5&r=0");
        due("without RING", x.of(0, 21), 1);
    }

    private static void oneInRing() {
        says("of one: itself both");
        BothBeside x = standing(99);
        due("99 alone, without RING", x.of(0, 2), 0);
        x.mend(0, 1, 1);
        due("99 alone in a ring", x.of(0, 2), 1);
        law(x, "l=99&r=99");
        due("itself both", x.of(0, 2), 1);
    }

    private static void noneBeside() {
        says("l, r WEIGHTS of the neighbours on the left, on the right (0: none)");
        BothBeside x = standing(5, 6, 7);
        law(x, "l=0&r=6");
        due("the first one", x.of(0, 2), 1);
        law(x, "l=5&r=7");
        due("the one between", x.of(1, 2), 1);
        law(x, "l=6&r=0");
        due("the last one", x.of(2, 2), 1);
        BothBeside one = standing(5);
        law(one, "l=0&r=0");
        due("the only one", one.of(0, 2), 1);
    }

    private static void plainly() {
        says("Without a text: w is no more than l + r.");
        due("4 9 5, as much", standing(4, 9, 5).of(1, 2), 1);
        due("4 10 5, one more", standing(4, 10, 5).of(1, 2), 0);
        due("9 9, as much as one", standing(9, 9).of(0, 2), 1);
        due("10 9, one more than one", standing(10, 9).of(0, 2), 0);
        due("9 10, one more than one", standing(9, 10).of(1, 2), 0);
        due("1 alone, more than 0", standing(1).of(0, 2), 0);
        due("99 99 99, as heavy as can be", standing(99, 99, 99).of(0, 21), 1);
    }

    private static void all() {
        says("A row is LAWFUL, if all of it are (one of none is).");
        due("none", new BothBeside().of(0, 21), 1);
        due("none, in a ring", inRing().of(0, 21), 1);
        due("none, by the law 0", under("0", 0).of(0, 21), 1);
        due("1 1 1", standing(1, 1, 1).of(0, 21), 1);
        due("2 1 1, the first is not", standing(2, 1, 1).of(0, 21), 0);
        due("1 3 1, the one between is not", standing(1, 3, 1).of(0, 21), 0);
        due("1 1 2, the last is not", standing(1, 1, 2).of(0, 21), 0);
        due("eight, the last is not", standing(1, 1, 1, 1, 1, 1, 1, 2).of(0, 21), 0);
        due("eight", standing(1, 1, 1, 1, 1, 1, 1, 1).of(0, 21), 1);
    }

    private static void whatOf() {
        says("Of a STONE: 0 WEIGHT, 1 its PLACE");
        BothBeside x = brought(7, 8);
        for (int what = 0; what <= 2; what++) {
            for (int s : new int[] {-1, 2, 8, MIN, MAX}) due("of(" + s + ", " + what + ")", x.of(s, what), BAD);
        }
        for (int what : new int[] {-1, 3, 9, 11, 19, 24, MIN, MAX}) due("of(0, " + what + ")", x.of(0, what), BAD);
        due("of(0, 0)", x.of(0, 0), 7);
        due("of(1, 0), the last there is", x.of(1, 0), 8);
    }

    private static void placeOf() {
        says("1 its PLACE (NOT: not in THE ROW)");
        BothBeside x = brought(7, 8, 9);
        due("of(2, 1), never set", x.of(2, 1), NOT);
        x.set(2, 0);
        x.set(0, 1);
        due("of(2, 1), the first", x.of(2, 1), 0);
        due("of(0, 1), the last", x.of(0, 1), 1);
        due("of(1, 1), not set", x.of(1, 1), NOT);
        due("of(3, 1), no stone", x.of(3, 1), BAD);
        x.take(0);
        due("of(2, 1), taken out", x.of(2, 1), NOT);
        due("of(0, 1), moved up", x.of(0, 1), 0);
    }

    private static void lawfulOf() {
        says("2 whether it is LAWFUL there (1, 0; NOT: not in THE ROW)");
        BothBeside x = brought(2, 1, 9);
        due("of(0, 2), not set", x.of(0, 2), NOT);
        due("of(3, 2), no stone", x.of(3, 2), BAD);
        x.set(0, 0);
        x.set(1, 1);
        due("of(0, 2), 2 beside 1", x.of(0, 2), 0);
        due("of(1, 2), 1 beside 2", x.of(1, 2), 1);
        due("of(2, 2), not set", x.of(2, 2), NOT);
        law(x, "0-7");
        due("of(0, 2), by -7 it is 1", x.of(0, 2), 1);
        law(x, "9999");
        due("of(0, 2), by 9999 it is 1", x.of(0, 2), 1);
    }

    private static void ofThePlace() {
        says("of a PLACE: 10 the stone");
        BothBeside x = brought(2, 1, 9);
        x.set(2, 0);
        x.set(1, 1);
        due("of(0, 10)", x.of(0, 10), 2);
        due("of(1, 10)", x.of(1, 10), 1);
        for (int p : new int[] {-1, 2, 8, MIN, MAX}) due("of(" + p + ", 10)", x.of(p, 10), BAD);
    }

    private static void ofNumberNought() {
        says("number 0: 20 RING, 21 whether THE ROW is LAWFUL (1, 0), 22 how many deeds, 23 how many left what is not LAWFUL.");
        BothBeside x = inRing(1, 1, 5);
        due("of(0, 20)", x.of(0, 20), 1);
        due("of(0, 21)", x.of(0, 21), 0);
        due("of(0, 22)", x.of(0, 22), 3);
        due("of(0, 23), 1; 1 1; 1 1 5 without RING", x.of(0, 23), 2);
        for (int what = 20; what <= 23; what++) {
            for (int n : new int[] {-1, 1, 2, MIN, MAX}) due("of(" + n + ", " + what + ")", x.of(n, what), BAD);
        }
    }
}
