/** The edges of deeds, of changes of numbers and of the image: mend, set, take, turn, image, back, undo, redo. */
public final class EdgesOfDeeds extends Edges {
    private EdgesOfDeeds() {
    }

    public static void main(String[] args) {
        setAtAPlace();
        itStandsThere();
        takenOut();
        stretches();
        led();
        thoughtsAreNoDeeds();
        mended();
        undone();
        fortyAtMost();
        fortyAtMostDoneAgain();
        doneAgain();
        noOtherBehind();
        noChange();
        whatIsNoChangeOfANumber();
        image();
        laidBack();
        whatTheImageLacks();
        noImage();
        Checks.end();
    }

    private static void rowIs(String call, BothBeside x, int... stones) {
        due(call + ": count(1)", x.count(1), stones.length);
        for (int p = 0; p < stones.length; p++) due(call + ": of(" + p + ", 10)", x.of(p, 10), stones[p]);
    }

    private static void setAtAPlace() {
        says("A STONE is set at a PLACE (0 to how many there are): how many stand there.");
        BothBeside x = brought(1, 1, 1, 1, 1, 1, 1, 1);
        due("set(0, 1) of none", x.set(0, 1), BAD);
        due("set(0, -1) of none", x.set(0, -1), BAD);
        due("set(0, 0) of none", x.set(0, 0), 1);
        for (int p : new int[] {-1, 2, MIN, MAX}) due("set(1, " + p + ") of one", x.set(1, p), BAD);
        due("set(1, 1), at the end", x.set(1, 1), 2);
        due("set(2, 0), at the beginning", x.set(2, 0), 3);
        due("set(3, 1), between", x.set(3, 1), 4);
        rowIs("2 3 0 1", x, 2, 3, 0, 1);
        for (int s = 4; s < 8; s++) due("set(" + s + ", " + s + ")", x.set(s, s), s + 1);
        rowIs("all eight", x, 2, 3, 0, 1, 4, 5, 6, 7);
        x.take(0);
        for (int p : new int[] {-1, 8}) due("set(2, " + p + ") of seven", x.set(2, p), BAD);
        due("set(2, 7) of seven", x.set(2, 7), 8);
        for (int s : new int[] {-1, 8, MIN, MAX}) due("set(" + s + ", 0)", x.set(s, 0), BAD);
        due("set(3, 0) of three stones", brought(1, 1, 1).set(3, 0), BAD);
    }

    private static void itStandsThere() {
        says("BAD; STATE: it stands there.");
        BothBeside x = standing(1, 1, 1);
        for (int s = 0; s < 3; s++) {
            for (int p = 0; p <= 3; p++) due("set(" + s + ", " + p + ")", x.set(s, p), STATE);
            for (int p : new int[] {-1, 4}) due("set(" + s + ", " + p + "), BAD ahead of STATE", x.set(s, p), BAD);
        }
        rowIs("as it was", x, 0, 1, 2);
        due("no deed", x.of(0, 22), 3);
        x.take(1);
        due("taken out, set(1, 2)", x.set(1, 2), 3);
        rowIs("0 2 1", x, 0, 2, 1);
    }

    private static void takenOut() {
        says("The one at a PLACE is taken out: the stone. BAD.");
        BothBeside x = standing(1, 1, 1, 1, 1, 1, 1, 1);
        for (int p : new int[] {-1, 8, 9, MIN, MAX}) due("take(" + p + ") of eight", x.take(p), BAD);
        due("take(7), the last", x.take(7), 7);
        due("take(7) of seven", x.take(7), BAD);
        due("take(0), the first", x.take(0), 0);
        due("take(2), one between", x.take(2), 3);
        rowIs("1 2 4 5 6", x, 1, 2, 4, 5, 6);
        for (int s : new int[] {1, 2, 4, 5, 6}) due("take(0)", x.take(0), s);
        due("take(0) of none", x.take(0), BAD);
        due("count(1)", x.count(1), 0);
        due("the stones stay", x.count(0), 8);
        due("of(3, 1)", x.of(3, 1), NOT);
    }

    private static void stretches() {
        says("A stretch (ij: 10 i and j) is turned: how many stones it has. BAD.");
        BothBeside x = standing(1, 1, 1, 1, 1, 1, 1, 1);
        for (int i = 0; i < 8; i++) {
            for (int j = 0; j <= i; j++) due("turn(" + (10 * i + j) + "), i is not below j", x.turn(10 * i + j), BAD);
            for (int j = 8; j < 10; j++) due("turn(" + (10 * i + j) + "), no PLACE j", x.turn(10 * i + j), BAD);
        }
        for (int ij : new int[] {-1, -7, -10, -12, -67, 80, 89, 99, 100, 101, 107, 1007, MIN, MAX}) {
            due("turn(" + ij + ")", x.turn(ij), BAD);
        }
        rowIs("as it was", x, 0, 1, 2, 3, 4, 5, 6, 7);
        due("turn(7), all", x.turn(7), 8);
        rowIs("all", x, 7, 6, 5, 4, 3, 2, 1, 0);
        due("turn(67), the last two", x.turn(67), 2);
        due("turn(1), the first two", x.turn(1), 2);
        due("turn(24), three", x.turn(24), 3);
        rowIs("6 7 3 4 5 2 0 1", x, 6, 7, 3, 4, 5, 2, 0, 1);
        due("deeds", x.of(0, 22), 12);
        BothBeside three = standing(1, 1, 1);
        due("turn(3) of three", three.turn(3), BAD);
        due("turn(23) of three", three.turn(23), BAD);
        due("turn(2) of three", three.turn(2), 3);
        due("turn(1) of none", new BothBeside().turn(1), BAD);
        due("turn(0) of none", new BothBeside().turn(0), BAD);
        due("turn(0) of one", standing(1).turn(0), BAD);
        due("turn(1) of one", standing(1).turn(1), BAD);
    }

    private static void led() {
        says("LED: how many deeds; how many of them left what is not LAWFUL.");
        BothBeside x = brought(5, 5, 9);
        due("set(0, 0)", x.set(0, 0), 1);
        ledIs(x, 1, 1);
        x.set(1, 1);
        ledIs(x, 2, 1);
        x.set(2, 2);
        ledIs(x, 3, 2);
        x.turn(12);
        ledIs(x, 4, 2);
        x.turn(1);
        ledIs(x, 5, 3);
        x.take(0);
        ledIs(x, 6, 3);
        x.take(0);
        ledIs(x, 7, 4);
        x.take(0);
        ledIs(x, 8, 4);
        x.mend(0, 1, 1);
        x.set(2, 0);
        ledIs(x, 9, 4);
        law(x, "0");
        ledIs(x, 9, 4);
        x.take(0);
        ledIs(x, 10, 4);
        x.set(2, 0);
        ledIs(x, 11, 5);
    }

    private static void ledIs(BothBeside x, int deeds, int wrongs) {
        due("deed " + deeds + ": of(0, 22)", x.of(0, 22), deeds);
        due("deed " + deeds + ": of(0, 23)", x.of(0, 23), wrongs);
    }

    private static void thoughtsAreNoDeeds() {
        says("IN DEED: a stone is set at a PLACE, one is taken out, a stretch is turned (LAWFUL or not).");
        BothBeside x = standing(5, 9, 5, 5);
        bytes(x, 0, 3, 2, 1, 0);
        x.broken();
        x.maySell();
        x.ways(0);
        x.ways(1);
        x.rows(15, -1);
        x.ounces(-1);
        x.makeUp(0);
        x.ends(15);
        x.aside(15);
        x.soldOn(-1);
        x.worth(15, 1);
        x.fewest(0);
        x.book(0, -1);
        x.mixed(1, 50, -1);
        x.stone(7);
        x.mend(0, 0, 6);
        x.undo();
        x.redo();
        x.image();
        x.law();
        rowIs("what is in thought leaves the row", x, 0, 1, 2, 3);
        ledIs(x, 4, 2);
        due("a stretch that leaves what is not LAWFUL", x.turn(1), 2);
        rowIs("it is turned", x, 1, 0, 2, 3);
        ledIs(x, 5, 3);
    }

    private static void mended() {
        says("WEIGHT (what 0) of a STONE, RING (1; number 0) becomes v: what it was. BAD.");
        BothBeside x = brought(5, 6);
        int[][] wrong = {{2, 0, 5}, {-1, 0, 5}, {8, 0, 5}, {MAX, 0, 5}, {MIN, 0, 5}, {0, 0, 0}, {0, 0, 100}, {1, 1, 1},
            {-1, 1, 1}, {8, 1, 0}, {0, 1, 2}, {0, 1, -1}, {0, 2, 1}, {0, -1, 1}, {0, MAX, 1}, {0, MIN, 1}};
        for (int[] a : wrong) due("mend(" + a[0] + ", " + a[1] + ", " + a[2] + ")", x.mend(a[0], a[1], a[2]), BAD);
        due("count(3)", x.count(3), 0);
        due("mend(0, 0, 1)", x.mend(0, 0, 1), 5);
        due("mend(1, 0, 99), the last there is", x.mend(1, 0, 99), 6);
        due("mend(0, 1, 1)", x.mend(0, 1, 1), 0);
        due("mend(0, 1, 0)", x.mend(0, 1, 0), 1);
        due("mend(0, 0, 99)", x.mend(0, 0, 99), 1);
        due("RING without a stone", new BothBeside().mend(0, 1, 1), 0);
        due("WEIGHT without a stone", new BothBeside().mend(0, 0, 1), BAD);
        BothBeside row = standing(4, 9, 4);
        due("9 between 4 and 4", row.broken(), 1);
        row.mend(0, 0, 5);
        due("9 between 5 and 4", row.broken(), NOT);
    }

    private static void undone() {
        says("UNDONE: how many may still be. STATE: none.");
        BothBeside x = brought(5, 6);
        due("none", x.undo(), STATE);
        x.mend(0, 0, 7);
        x.mend(0, 1, 1);
        x.mend(1, 0, 8);
        x.mend(0, 0, 9);
        due("count(3)", x.count(3), 4);
        due("the latest first", x.undo(), 3);
        due("of(0, 0)", x.of(0, 0), 7);
        due("of(1, 0)", x.of(1, 0), 8);
        due("undo()", x.undo(), 2);
        due("of(1, 0)", x.of(1, 0), 6);
        due("of(0, 20)", x.of(0, 20), 1);
        due("undo()", x.undo(), 1);
        due("of(0, 20)", x.of(0, 20), 0);
        due("undo(), the last one", x.undo(), 0);
        due("of(0, 0)", x.of(0, 0), 5);
        due("none is left", x.undo(), STATE);
        due("none is left", x.undo(), STATE);
        due("count(3)", x.count(3), 0);
    }

    private static void fortyAtMost() {
        says("40 at most are kept.");
        for (int changes = 39; changes <= 42; changes++) {
            BothBeside x = brought(99);
            int kept = Math.min(changes, 40);
            for (int i = 1; i <= changes; i++) x.mend(0, 0, i);
            due(changes + " changes, count(3)", x.count(3), kept);
            for (int left = kept - 1; left >= 0; left--) due(changes + " changes, undo()", x.undo(), left);
            due(changes + " changes, one more", x.undo(), STATE);
            due(changes + " changes, of(0, 0)", x.of(0, 0), changes <= 40 ? 99 : changes - 40);
        }
        BothBeside ring = brought(9);
        ring.mend(0, 1, 1);
        for (int i = 10; i < 50; i++) ring.mend(0, 0, i);
        for (int i = 0; i < 40; i++) ring.undo();
        due("the first, RING, is not kept", ring.undo(), STATE);
        due("RING stays", ring.of(0, 20), 1);
        due("the WEIGHT is the first", ring.of(0, 0), 9);
    }

    private static void fortyAtMostDoneAgain() {
        says("40 at most are kept.");
        BothBeside x = brought(99);
        for (int i = 1; i <= 45; i++) x.mend(0, 0, i);
        for (int left = 39; left >= 0; left--) due("undo()", x.undo(), left);
        for (int left = 39; left >= 0; left--) due("redo()", x.redo(), left);
        due("redo(), none is left", x.redo(), STATE);
        due("of(0, 0)", x.of(0, 0), 45);
        due("count(3)", x.count(3), 40);
        x.undo();
        x.undo();
        due("mend(0, 0, 50), the 39th", x.mend(0, 0, 50), 43);
        due("count(3)", x.count(3), 39);
        x.mend(0, 0, 51);
        x.mend(0, 0, 52);
        due("count(3)", x.count(3), 40);
        for (int left = 39; left >= 0; left--) due("undo()", x.undo(), left);
        due("of(0, 0), the first of those kept was the seventh", x.of(0, 0), 6);
        BothBeside several = brought(90, 91, 92);
        for (int i = 0; i < 43; i++) several.mend(i % 3, 0, i + 1);
        for (int i = 42; i >= 3; i--) {
            due("undo() of change " + i, several.undo(), i - 3);
            due("of(" + i % 3 + ", 0)", several.of(i % 3, 0), i - 2);
        }
        due("undo() of change 2", several.undo(), STATE);
        for (int i = 3; i < 43; i++) {
            due("redo() of change " + i, several.redo(), 42 - i);
            due("of(" + i % 3 + ", 0)", several.of(i % 3, 0), i + 1);
        }
    }

    private static void doneAgain() {
        says("DONE AGAIN: how many may still be. STATE: none.");
        BothBeside x = brought(5, 6);
        due("none", x.redo(), STATE);
        x.mend(0, 0, 7);
        due("none was undone", x.redo(), STATE);
        x.mend(0, 1, 1);
        x.mend(1, 0, 8);
        for (int i = 0; i < 3; i++) x.undo();
        due("redo()", x.redo(), 2);
        due("of(0, 0)", x.of(0, 0), 7);
        due("of(0, 20)", x.of(0, 20), 0);
        due("count(3)", x.count(3), 1);
        due("redo()", x.redo(), 1);
        due("of(0, 20)", x.of(0, 20), 1);
        due("redo(), the last one", x.redo(), 0);
        due("of(1, 0)", x.of(1, 0), 8);
        due("none is left", x.redo(), STATE);
        due("count(3)", x.count(3), 3);
        due("undo() of what was done again", x.undo(), 2);
        due("of(1, 0)", x.of(1, 0), 6);
        due("redo()", x.redo(), 0);
    }

    private static void noOtherBehind() {
        says("and DONE AGAIN (as long as no other came behind)");
        BothBeside x = brought(5, 6);
        x.mend(0, 0, 7);
        x.mend(0, 0, 8);
        x.undo();
        x.undo();
        x.redo();
        due("another came behind", x.mend(1, 0, 9), 6);
        due("redo()", x.redo(), STATE);
        due("undo() of the other", x.undo(), 1);
        due("redo() of the other", x.redo(), 0);
        due("of(1, 0)", x.of(1, 0), 9);
        due("of(0, 0)", x.of(0, 0), 7);
        x.undo();
        x.undo();
        due("another with none ahead", x.mend(0, 1, 1), 0);
        due("redo()", x.redo(), STATE);
        due("count(3)", x.count(3), 1);
        x.undo();
        x.mend(2, 0, 9);
        x.mend(0, 0, 100);
        x.mend(0, 1, 2);
        x.set(0, 0);
        x.stone(3);
        x.image();
        x.back();
        law(x, "w");
        due("BAD ones, deeds and the law are no other", x.redo(), 0);
        due("of(0, 20)", x.of(0, 20), 1);
    }

    private static void noChange() {
        says("CHANGES OF NUMBERS (WEIGHT; RING) can be UNDONE, the latest first");
        BothBeside x = brought(5);
        due("mend(0, 0, 5), as it was", x.mend(0, 0, 5), 5);
        due("mend(0, 1, 0), as it was", x.mend(0, 1, 0), 0);
        due("no number has changed, count(3)", x.count(3), 0);
        due("no number has changed, undo()", x.undo(), STATE);
        x.mend(0, 0, 6);
        x.mend(0, 0, 6);
        x.mend(0, 1, 1);
        x.mend(0, 1, 1);
        due("two have changed, count(3)", x.count(3), 2);
        due("undo()", x.undo(), 1);
        x.mend(0, 0, 6);
        x.mend(0, 1, 0);
        due("none came behind, redo()", x.redo(), 0);
        BothBeside full = brought(99);
        for (int i = 1; i <= 40; i++) full.mend(0, 0, i);
        due("the same again behind forty", full.mend(0, 0, 40), 40);
        for (int left = 39; left >= 0; left--) due("undo()", full.undo(), left);
        due("of(0, 0)", full.of(0, 0), 99);
    }

    private static void whatIsNoChangeOfANumber() {
        says("CHANGES OF NUMBERS (WEIGHT; RING)");
        BothBeside x = standing(5, 6);
        x.turn(1);
        x.take(0);
        law(x, "w");
        x.image();
        x.back();
        x.feed('w');
        due("deeds, the law, the image are none", x.count(3), 0);
        due("undo()", x.undo(), STATE);
        x.mend(0, 0, 9);
        x.set(1, 0);
        due("undo() behind a deed", x.undo(), 0);
        due("the deed stays", x.count(1), 2);
        due("deeds", x.of(0, 22), 5);
        due("of(0, 0)", x.of(0, 0), 5);
    }

    private static void image() {
        says("AN IMAGE is kept: how many stand there.");
        BothBeside x = brought(1, 1, 1, 1, 1, 1, 1, 1);
        due("none", x.image(), 0);
        for (int s = 0; s < 8; s++) {
            x.set(s, 0);
            due("image()", x.image(), s + 1);
        }
        due("no deed", x.of(0, 22), 8);
        for (int s = 7; s >= 0; s--) x.take(0);
        due("back()", x.back(), 8);
        rowIs("back()", x, 7, 6, 5, 4, 3, 2, 1, 0);
        x.take(0);
        due("image(), the latest alone is kept", x.image(), 7);
        x.take(0);
        due("back()", x.back(), 7);
        rowIs("back()", x, 6, 5, 4, 3, 2, 1, 0);
    }

    private static void laidBack() {
        says("AN IMAGE keeps THE ROW, what LED tells.");
        BothBeside x = standing(5, 5, 9);
        ledIs(x, 3, 2);
        due("image()", x.image(), 3);
        x.turn(2);
        x.take(0);
        x.take(0);
        ledIs(x, 6, 4);
        due("back()", x.back(), 3);
        rowIs("back()", x, 0, 1, 2);
        ledIs(x, 3, 2);
        due("back() again", x.back(), 3);
        x.take(2);
        ledIs(x, 4, 2);
        due("back() once more", x.back(), 3);
        rowIs("back()", x, 0, 1, 2);
        ledIs(x, 3, 2);
        BothBeside y = brought(1, 1);
        y.image();
        y.set(0, 0);
        y.set(1, 0);
        due("back() to none", y.back(), 0);
        rowIs("none", y);
        ledIs(y, 0, 0);
        due("set(0, 0)", y.set(0, 0), 1);
    }

    private static void whatTheImageLacks() {
        says("AN IMAGE keeps THE ROW, what LED tells.");
        BothBeside x = standing(5, 5);
        x.image();
        x.mend(0, 0, 9);
        x.mend(0, 1, 1);
        x.stone(7);
        x.set(2, 0);
        law(x, "s");
        bytes(x, 0, 4);
        x.body(3);
        due("back()", x.back(), 2);
        due("the WEIGHT stays", x.of(0, 0), 9);
        due("RING stays", x.of(0, 20), 1);
        due("the STONE stays", x.count(0), 3);
        due("the law stays, of(0, 2)", x.of(0, 2), 0);
        due("the changes stay", x.count(3), 2);
        due("the shelf stays", x.element(0, 0), 4);
        due("the body stays", x.count(4), 1);
        due("set(2, 0) again", x.set(2, 0), 3);
    }

    private static void noImage() {
        says("It is laid back: how many stand there. STATE: there is none.");
        BothBeside x = standing(1, 1);
        due("back()", x.back(), STATE);
        due("THE ROW stays", x.count(1), 2);
        due("image()", x.image(), 2);
        due("back()", x.back(), 2);
        due("another object has none", new BothBeside().back(), STATE);
    }
}
