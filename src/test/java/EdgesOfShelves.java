/** The edges of shelves: row, put, element, shift, the host's refusals, stones from a row, count. */
public final class EdgesOfShelves extends Edges {
    private EdgesOfShelves() {
    }

    public static void main(String[] args) {
        shelves();
        nothingAtFirst();
        sorts();
        sixtyElements();
        sizes();
        noughtAtFirst();
        lowestBits();
        booleans();
        putRefused();
        elementRefused();
        shifted();
        asTheyWere();
        shiftPlaces();
        shiftRefused();
        hostsRefusals();
        shelvesApart();
        stonesFromARow();
        fromThisRowAlone();
        whereItEnds();
        stonesRefused();
        counted();
        Checks.end();
    }

    private static void rowIs(String call, BothBeside x, int shelf, long... elements) {
        for (int i = 0; i < elements.length; i++) due(call + ": element " + i, x.element(shelf, i), elements[i]);
        due(call + ": behind the last", x.put(shelf, elements.length, 0), NO_PLACE);
    }

    private static void shelves() {
        says("SHELVES 0 .. 5");
        BothBeside x = new BothBeside();
        for (int s = 0; s < 6; s++) due("row(" + s + ", 2, 1)", x.row(s, INTS, 1), 1);
        for (int s = 0; s < 6; s++) due("put(" + s + ", 0, " + (s + 7) + ")", x.put(s, 0, s + 7), 1);
        for (int s = 0; s < 6; s++) due("element(" + s + ", 0)", x.element(s, 0), s + 7);
        for (int s : new int[] {-1, 6, 60, MIN, MAX}) {
            due("row(" + s + ", 2, 1)", x.row(s, INTS, 1), BAD);
            due("put(" + s + ", 0, 1)", x.put(s, 0, 1), BAD);
            due("element(" + s + ", 0)", x.element(s, 0), Long.MIN_VALUE);
            due("shift(" + s + ", 0, 0, 0, 1)", x.shift(s, 0, 0, 0, 1), BAD);
            due("shift(0, 0, " + s + ", 0, 1)", x.shift(0, 0, s, 0, 1), BAD);
            due("keep(" + s + ", -1)", x.keep(s, -1), BAD);
            due("taken(" + s + ", 0)", x.taken(s, 0), BAD);
            due("stones(" + s + ", 0, 1)", x.stones(s, 0, 1), BAD);
            due("fewest(" + s + ")", x.fewest(s), BAD);
            due("book(" + s + ", -1)", x.book(s, -1), BAD);
        }
    }

    private static void nothingAtFirst() {
        says("each hold nothing (at first), a BODY, or a ROW");
        for (int s = 0; s < 6; s++) {
            BothBeside x = new BothBeside();
            due("nothing, put(" + s + ", 0, 1)", x.put(s, 0, 1), NOTHING_THERE);
            due("nothing, element(" + s + ", 0)", x.element(s, 0), Long.MIN_VALUE);
            due("nothing, taken(" + s + ", 0)", x.taken(s, 0), NOTHING_THERE);
            due("a ROW, row(" + s + ", 3, 2)", x.row(s, LONGS, 2), 1);
            due("a ROW, put(" + s + ", 1, 9)", x.put(s, 1, 9), 1);
            due("a ROW, taken(" + s + ", 0)", x.taken(s, 0), OTHER_KIND);
            x.body(0);
            due("a BODY, keep(" + s + ", 0)", x.keep(s, 0), 1);
            due("a BODY, put(" + s + ", 1, 9)", x.put(s, 1, 9), OTHER_KIND);
            due("a BODY, element(" + s + ", 1)", x.element(s, 1), Long.MIN_VALUE);
            due("a BODY, taken(" + s + ", 0)", x.taken(s, 0), 0);
            x.row(s, LONGS, 2);
            rowIs("a ROW anew", x, s, 0, 0);
            due("nothing again, keep(" + s + ", -1)", x.keep(s, -1), 1);
            due("nothing again, put(" + s + ", 0, 1)", x.put(s, 0, 1), NOTHING_THERE);
        }
    }

    private static void sorts() {
        says("a ROW: of 0 bytes, 1 shorts, 2 ints, 3 longs, 4 booleans");
        BothBeside x = new BothBeside();
        for (int sort : new int[] {-1, 5, MIN, MAX}) due("row(0, " + sort + ", 1)", x.row(0, sort, 1), BAD);
        long v = 0x1234_5678_9abc_def0L;
        long[] kept = {(byte) v, (short) v, (int) v, v, 1};
        for (int sort = BYTES; sort <= BOOLEANS; sort++) {
            due("row(0, " + sort + ", 1)", x.row(0, sort, 1), 1);
            x.put(0, 0, v);
            due("of sort " + sort, x.element(0, 0), kept[sort]);
        }
    }

    private static void sixtyElements() {
        says("of 0 .. 60 elements, 0 at first (false)");
        for (int sort = BYTES; sort <= BOOLEANS; sort++) {
            BothBeside x = new BothBeside();
            due("row(5, " + sort + ", 60)", x.row(5, sort, 60), 1);
            for (int i = 0; i < 60; i++) due("element(5, " + i + ")", x.element(5, i), 0);
            due("put(5, 59, 1)", x.put(5, 59, 1), 1);
            due("element(5, 59)", x.element(5, 59), 1);
            due("put(5, 60, 1)", x.put(5, 60, 1), NO_PLACE);
            due("row(4, " + sort + ", 0)", x.row(4, sort, 0), 1);
            due("put(4, 0, 1)", x.put(4, 0, 1), NO_PLACE);
            due("row(3, " + sort + ", 1)", x.row(3, sort, 1), 1);
            due("put(3, 0, 1)", x.put(3, 0, 1), 1);
            due("put(3, 1, 1)", x.put(3, 1, 1), NO_PLACE);
            due("row(3, " + sort + ", 61)", x.row(3, sort, 61), BAD);
        }
    }

    private static void sizes() {
        says("A SHELF holds a ROW: 1. BAD (sort, n above 60); -14.");
        BothBeside x = new BothBeside();
        for (int n : new int[] {-1, -60, MIN}) due("row(0, 0, " + n + ")", x.row(0, BYTES, n), BELOW_ZERO);
        for (int n : new int[] {61, 100, MAX}) due("row(0, 0, " + n + ")", x.row(0, BYTES, n), BAD);
        due("row(0, 5, -1), BAD ahead of -14", x.row(0, 5, -1), BAD);
        due("row(0, -1, -1), BAD ahead of -14", x.row(0, -1, -1), BAD);
        due("row(6, 0, -1), BAD ahead of -14", x.row(6, BYTES, -1), BAD);
        due("row(-1, 0, -1), BAD ahead of -14", x.row(-1, BYTES, -1), BAD);
        due("nothing is there", x.put(0, 0, 1), NOTHING_THERE);
        for (int n = 0; n <= 60; n++) due("row(0, 0, " + n + ")", x.row(0, BYTES, n), 1);
    }

    private static void noughtAtFirst() {
        says("0 at first (false)");
        BothBeside x = new BothBeside();
        for (int sort = BYTES; sort <= BOOLEANS; sort++) {
            x.row(0, sort, 60);
            for (int i = 0; i < 60; i += 59) x.put(0, i, -1);
            x.row(0, sort, 60);
            for (int i = 0; i < 60; i++) due("of sort " + sort + " anew, element(0, " + i + ")", x.element(0, i), 0);
        }
        x.put(0, 2, 1);
        x.row(0, BOOLEANS, 1);
        x.row(0, BOOLEANS, 3);
        due("shorter, then longer", x.element(0, 2), 0);
    }

    private static void lowestBits() {
        says("what is put in keeps its lowest bits");
        long[] values = {127, 128, 255, 256, -128, -129, 32767, 32768, 65535, 65536, -32768, -32769, MAX, MAX + 1L, MIN,
            MIN - 1L, 1L << 32, -1, 0, Long.MAX_VALUE, Long.MIN_VALUE, Long.MIN_VALUE + 1};
        long[] bytes = {127, -128, -1, 0, -128, 127, -1, 0, -1, 0, 0, -1, -1, 0, 0, -1, 0, -1, 0, -1, 0, 1};
        long[] shorts = {127, 128, 255, 256, -128, -129, 32767, -32768, -1, 0, -32768, 32767, -1, 0, 0, -1, 0, -1, 0, -1, 0, 1};
        long[] ints = {127, 128, 255, 256, -128, -129, 32767, 32768, 65535, 65536, -32768, -32769, MAX, MIN, MIN, MAX, 0, -1,
            0, -1, 0, 1};
        long[][] kept = {bytes, shorts, ints, values};
        BothBeside x = new BothBeside();
        for (int sort = BYTES; sort <= LONGS; sort++) {
            x.row(sort, sort, 3);
            for (int i = 0; i < values.length; i++) {
                due("put(" + sort + ", 1, " + values[i] + ")", x.put(sort, 1, values[i]), 1);
                due("of sort " + sort + ", " + values[i], x.element(sort, 1), kept[sort][i]);
            }
            due("the one ahead stays", x.element(sort, 0), 0);
            due("the one behind stays", x.element(sort, 2), 0);
        }
    }

    private static void booleans() {
        says("(a boolean: whether it is not 0; 1 or 0)");
        BothBeside x = new BothBeside();
        x.row(0, BOOLEANS, 1);
        for (long v : new long[] {1, 2, -1, 256, 1L << 32, Long.MIN_VALUE, Long.MAX_VALUE}) {
            x.put(0, 0, 0);
            due("0", x.element(0, 0), 0);
            x.put(0, 0, v);
            due("" + v, x.element(0, 0), 1);
        }
    }

    private static void putRefused() {
        says("Element i of a ROW becomes v: 1. BAD, -11, -12, -13.");
        BothBeside x = new BothBeside();
        x.body(0);
        x.keep(1, 0);
        x.row(2, INTS, 3);
        x.row(3, INTS, 0);
        for (int i : new int[] {-1, 0, 3}) {
            due("put(6, " + i + ", 1), no shelf", x.put(6, i, 1), BAD);
            due("put(0, " + i + ", 1), nothing", x.put(0, i, 1), NOTHING_THERE);
            due("put(1, " + i + ", 1), a BODY", x.put(1, i, 1), OTHER_KIND);
            due("put(3, " + i + ", 1), of none", x.put(3, i, 1), NO_PLACE);
        }
        for (int i : new int[] {-1, 3, 59, 60, MIN, MAX}) due("put(2, " + i + ", 1)", x.put(2, i, 1), NO_PLACE);
        due("put(2, 0, 5), the first", x.put(2, 0, 5), 1);
        due("put(2, 2, 7), the last", x.put(2, 2, 7), 1);
        rowIs("5 0 7", x, 2, 5, 0, 7);
    }

    private static void elementRefused() {
        says("Element i of a ROW; Long.MIN_VALUE: BAD, -11 to -13.");
        BothBeside x = new BothBeside();
        x.body(0);
        x.keep(1, 0);
        x.row(2, LONGS, 3);
        for (int s : new int[] {-1, 0, 1, 3, 6, MIN, MAX}) due("element(" + s + ", 0)", x.element(s, 0), Long.MIN_VALUE);
        for (int i : new int[] {-1, 3, 59, 60, MIN, MAX}) due("element(2, " + i + ")", x.element(2, i), Long.MIN_VALUE);
        x.put(2, 0, -1);
        x.put(2, 2, Long.MAX_VALUE);
        due("element(2, 0), the first", x.element(2, 0), -1);
        due("element(2, 1)", x.element(2, 1), 0);
        due("element(2, 2), the last", x.element(2, 2), Long.MAX_VALUE);
    }

    private static void shifted() {
        says("n elements of a ROW from i on come to another one (or the same) from j on");
        long[][] ends = {{-1, 0, 127}, {-300, 0, 32767}, {MIN, 0, MAX}, {Long.MIN_VALUE + 1, 0, Long.MAX_VALUE}, {1, 0, 1}};
        for (int sort = BYTES; sort <= BOOLEANS; sort++) {
            BothBeside x = new BothBeside();
            x.row(0, sort, 3);
            x.row(5, sort, 60);
            for (int i = 0; i < 3; i++) x.put(0, i, ends[sort][i]);
            due("to the end, of sort " + sort, x.shift(0, 0, 5, 57, 3), 3);
            for (int i = 0; i < 3; i++) due("element(5, " + (57 + i) + ")", x.element(5, 57 + i), ends[sort][i]);
            due("element(5, 56)", x.element(5, 56), 0);
            due("from the end, of sort " + sort, x.shift(5, 59, 0, 0, 1), 1);
            due("element(0, 0)", x.element(0, 0), ends[sort][2]);
            due("element(0, 1)", x.element(0, 1), 0);
            due("all sixty to itself", x.shift(5, 0, 5, 0, 60), 60);
            due("sixty one", x.shift(5, 0, 5, 0, 61), NO_PLACE);
        }
    }

    private static void asTheyWere() {
        says("as they all were before: n.");
        BothBeside x = new BothBeside();
        bytes(x, 0, 1, 2, 3, 4, 5);
        due("up by one", x.shift(0, 0, 0, 1, 4), 4);
        rowIs("up by one", x, 0, 1, 1, 2, 3, 4);
        bytes(x, 0, 1, 2, 3, 4, 5);
        due("down by one", x.shift(0, 1, 0, 0, 4), 4);
        rowIs("down by one", x, 0, 2, 3, 4, 5, 5);
        bytes(x, 0, 1, 2, 3, 4, 5);
        due("up by two", x.shift(0, 0, 0, 2, 3), 3);
        rowIs("up by two", x, 0, 1, 2, 1, 2, 3);
        bytes(x, 0, 1, 2, 3, 4, 5);
        due("down by two", x.shift(0, 2, 0, 0, 3), 3);
        rowIs("down by two", x, 0, 3, 4, 5, 4, 5);
        due("to where they are", x.shift(0, 1, 0, 1, 3), 3);
        rowIs("to where they are", x, 0, 3, 4, 5, 4, 5);
        bytes(x, 1, 9, 8);
        due("to another", x.shift(0, 0, 1, 0, 2), 2);
        rowIs("to another", x, 1, 3, 4);
        rowIs("the one they came from", x, 0, 3, 4, 5, 4, 5);
    }

    private static void shiftPlaces() {
        says("-13 (n below 0, too).");
        BothBeside x = new BothBeside();
        bytes(x, 0, 1, 2, 3, 4, 5);
        bytes(x, 1, 6, 7);
        int[][] away = {{-1, 0, 1}, {0, -1, 1}, {0, 0, -1}, {5, 0, 1}, {4, 0, 2}, {0, 2, 1}, {0, 1, 2}, {0, 0, 3}, {6, 0, 0},
            {0, 3, 0}, {-1, 0, 0}, {0, -1, 0}, {1, 0, -1}, {5, 0, -1}, {0, 2, -1}, {0, 0, MIN}, {0, 0, MAX}, {MAX, 0, 1},
            {0, MAX, 1}, {MAX, MAX, MAX}, {MIN, MIN, MIN}, {MIN, 0, 1}, {0, MIN, 1}, {1, 0, MAX}, {1, 1, MIN}};
        for (int[] a : away) {
            due("shift(0, " + a[0] + ", 1, " + a[1] + ", " + a[2] + ")", x.shift(0, a[0], 1, a[1], a[2]), NO_PLACE);
        }
        rowIs("as it was", x, 0, 1, 2, 3, 4, 5);
        rowIs("as it was", x, 1, 6, 7);
        due("none, shift(0, 0, 1, 0, 0)", x.shift(0, 0, 1, 0, 0), 0);
        due("the last, shift(0, 4, 1, 1, 1)", x.shift(0, 4, 1, 1, 1), 1);
        rowIs("6 5", x, 1, 6, 5);
        due("all of the shorter, shift(0, 3, 1, 0, 2)", x.shift(0, 3, 1, 0, 2), 2);
        rowIs("4 5", x, 1, 4, 5);
        x.row(2, BYTES, 0);
        due("of none, none", x.shift(2, 0, 2, 0, 0), 0);
        due("of none, one", x.shift(2, 0, 2, 0, 1), NO_PLACE);
        due("to none, one", x.shift(0, 0, 2, 0, 1), NO_PLACE);
    }

    private static void shiftRefused() {
        says("BAD, -11 (either), -12 (no ROWS, or of unlike sorts), -13 (n below 0, too).");
        BothBeside x = new BothBeside();
        x.body(0);
        x.keep(1, 0);
        bytes(x, 2, 1, 2);
        bytes(x, 3, 3, 4);
        due("no shelf, shift(6, .., 0)", x.shift(6, -1, 0, 0, 1), BAD);
        due("no shelf, shift(0, .., 6)", x.shift(0, -1, 6, 0, 1), BAD);
        due("nothing to a BODY", x.shift(0, 0, 1, 0, 1), NOTHING_THERE);
        due("a BODY to nothing", x.shift(1, 0, 0, 0, 1), NOTHING_THERE);
        due("nothing to a ROW", x.shift(0, 0, 2, 0, 1), NOTHING_THERE);
        due("a ROW to nothing", x.shift(2, 0, 0, 0, 1), NOTHING_THERE);
        due("nothing to nothing", x.shift(0, 0, 4, 0, 1), NOTHING_THERE);
        due("nothing to itself, n below 0", x.shift(0, 0, 0, 0, -1), NOTHING_THERE);
        due("a BODY to itself", x.shift(1, 0, 1, 0, 0), OTHER_KIND);
        due("a BODY to a ROW", x.shift(1, 0, 2, 0, 1), OTHER_KIND);
        due("a ROW to a BODY, n below 0", x.shift(2, 0, 1, 0, -1), OTHER_KIND);
        for (int a = BYTES; a <= BOOLEANS; a++) {
            for (int b = BYTES; b <= BOOLEANS; b++) {
                x.row(4, a, 2);
                x.row(5, b, 2);
                due("sort " + a + " to sort " + b, x.shift(4, 0, 5, 0, 2), a == b ? 2 : OTHER_KIND);
                due("sort " + a + " to sort " + b + ", n below 0", x.shift(4, 0, 5, 0, -1), a == b ? NO_PLACE : OTHER_KIND);
            }
        }
        due("bytes to bytes", x.shift(2, 0, 3, 0, 2), 2);
        rowIs("1 2", x, 3, 1, 2);
    }

    private static void hostsRefusals() {
        says("The host's REFUSALS: -11 nothing is there where something is wanted; -12 it is of another kind; -13 a place that is not there; -14 a size below 0.");
        BothBeside x = standing(1, 1);
        x.body(0);
        x.keep(1, 0);
        x.row(2, INTS, 2);
        due("-11 of put", x.put(0, 0, 1), -11);
        due("-11 of shift", x.shift(0, 0, 2, 0, 1), -11);
        due("-11 of taken", x.taken(0, 0), -11);
        due("-11 of fewest", x.fewest(0), -11);
        due("-11 of book", x.book(0, -1), -11);
        due("-12 of put", x.put(1, 0, 1), -12);
        due("-12 of shift", x.shift(1, 0, 2, 0, 1), -12);
        due("-12 of taken", x.taken(2, 0), -12);
        due("-12 of taken, a body of another kind", x.taken(1, 7), -12);
        due("-12 of fewest", x.fewest(2), -12);
        due("-12 of book", x.book(2, -1), -12);
        due("-12 of stones", x.stones(2, 0, 1), -12);
        due("-13 of put, ahead", x.put(2, -1, 1), -13);
        due("-13 of put, behind", x.put(2, 2, 1), -13);
        due("-13 of shift", x.shift(2, 0, 2, 1, 2), -13);
        due("-14 of row", x.row(3, INTS, -1), -14);
        due("no size below 0: 0", x.row(3, INTS, 0), 1);
    }

    private static void shelvesApart() {
        says("SHELVES 0 .. 5 each hold nothing (at first), a BODY, or a ROW");
        BothBeside x = new BothBeside();
        for (int s = 0; s < 6; s++) {
            x.row(s, LONGS, 60);
            x.put(s, 0, 100 + s);
            x.put(s, 59, 200 + s);
        }
        for (int s = 0; s < 6; s += 2) {
            due("anew, row(" + s + ", 3, 60)", x.row(s, LONGS, 60), 1);
            due("no place, put(" + s + ", -1, 7)", x.put(s, -1, 7), NO_PLACE);
            due("no place, put(" + s + ", 60, 7)", x.put(s, 60, 7), NO_PLACE);
            due("all of it, shift(" + s + ", 0, " + s + ", 0, 60)", x.shift(s, 0, s, 0, 60), 60);
            due("anew, element(" + s + ", 0)", x.element(s, 0), 0);
            due("anew, element(" + s + ", 59)", x.element(s, 59), 0);
        }
        for (int s = 1; s < 6; s += 2) {
            due("as it was, element(" + s + ", 0)", x.element(s, 0), 100 + s);
            due("as it was, element(" + s + ", 59)", x.element(s, 59), 200 + s);
            due("no place, element(" + s + ", -1)", x.element(s, -1), Long.MIN_VALUE);
            due("no place, element(" + s + ", 60)", x.element(s, 60), Long.MIN_VALUE);
        }
        x.row(3, LONGS, 2);
        due("behind a shorter one, put(3, 2, 7)", x.put(3, 2, 7), NO_PLACE);
        due("behind a shorter one, element(3, 59)", x.element(3, 59), Long.MIN_VALUE);
        x.body(0);
        x.keep(3, 0);
        x.keep(5, -1);
        due("another holds a BODY, element(1, 0)", x.element(1, 0), 101);
        due("another holds a BODY, element(4, 0)", x.element(4, 0), 0);
        due("another holds nothing, taken(3, 0)", x.taken(3, 0), 0);
        due("nothing, taken(5, 0)", x.taken(5, 0), NOTHING_THERE);
    }

    private static void stonesFromARow() {
        says("STONES FROM A ROW on a SHELF, from place i on, n (1 .. 8) of them: how many came (0 with i below 0).");
        BothBeside x = new BothBeside();
        bytes(x, 0, 11, 12, 13, 14, 15, 16, 17, 18, 19);
        for (int n : new int[] {0, 9, -1, MIN, MAX}) due("stones(0, 0, " + n + ")", x.stones(0, 0, n), BAD);
        for (int i : new int[] {-1, -8, MIN}) due("stones(0, " + i + ", 8)", x.stones(0, i, 8), 0);
        due("none came", x.count(0), 0);
        due("stones(0, 8, 1), the last", x.stones(0, 8, 1), 1);
        due("of(0, 0)", x.of(0, 0), 19);
        due("stones(0, 0, 1), the first", x.stones(0, 0, 1), 1);
        due("of(1, 0)", x.of(1, 0), 11);
        due("of(1, 1), not in THE ROW", x.of(1, 1), NOT);
        BothBeside eight = new BothBeside();
        bytes(eight, 5, 1, 2, 3, 4, 5, 6, 7, 8);
        due("stones(5, 0, 8), all eight", eight.stones(5, 0, 8), 8);
        for (int s = 0; s < 8; s++) due("of(" + s + ", 0)", eight.of(s, 0), s + 1);
        BothBeside some = new BothBeside();
        bytes(some, 0, 11, 12, 13, 14, 15, 16, 17, 18, 19);
        due("stones(0, 3, 4)", some.stones(0, 3, 4), 4);
        for (int s = 0; s < 4; s++) due("of(" + s + ", 0)", some.of(s, 0), 14 + s);
    }

    private static void fromThisRowAlone() {
        says("STONES FROM A ROW of bytes, from place i on: WEIGHTS: n of them");
        BothBeside x = new BothBeside();
        for (int s = 0; s < 6; s++) {
            x.row(s, BYTES, 60);
            for (int i = 57; i < 60; i++) x.put(s, i, 40 + s);
            x.put(s, 0, 50 + s);
        }
        x.row(2, BYTES, 3);
        x.put(2, 0, 30);
        x.put(2, 1, 31);
        x.put(2, 2, 32);
        for (int i : new int[] {-1, -2, -3, -60, -61}) due("ahead of the row, stones(2, " + i + ", 8)", x.stones(2, i, 8), 0);
        for (int i : new int[] {3, 4, 57, 60, 120}) due("behind the row, stones(2, " + i + ", 8)", x.stones(2, i, 8), 0);
        due("the row alone, stones(2, 1, 8)", x.stones(2, 1, 8), 2);
        due("of(0, 0)", x.of(0, 0), 31);
        due("of(1, 0)", x.of(1, 0), 32);
        due("the end of a row, stones(3, 59, 8)", x.stones(3, 59, 8), 1);
        due("of(2, 0)", x.of(2, 0), 43);
        due("one of them, stones(4, 57, 1)", x.stones(4, 57, 1), 1);
        due("two of them, stones(4, 57, 2)", x.stones(4, 57, 2), 2);
        due("count(0)", x.count(0), 6);
    }

    private static void whereItEnds() {
        says("it ends where the row is missing, ends, one is not as it may be, or STONES are FULL: those ahead came.");
        BothBeside missing = new BothBeside();
        for (int s = 0; s < 6; s++) due("the row is missing, stones(" + s + ", 0, 8)", missing.stones(s, 0, 8), 0);
        due("the row is missing, i below 0", missing.stones(0, -1, 8), 0);
        due("the row is missing, i far away", missing.stones(0, MAX, 8), 0);
        BothBeside end = new BothBeside();
        bytes(end, 0, 5, 6, 7);
        due("the row ends", end.stones(0, 1, 8), 2);
        due("the row has ended", end.stones(0, 3, 8), 0);
        due("far behind its end", end.stones(0, 60, 8), 0);
        due("as far as can be", end.stones(0, MAX, 8), 0);
        due("just up to its end", end.stones(0, 0, 3), 3);
        end.row(1, BYTES, 0);
        due("of none", end.stones(1, 0, 1), 0);
        end.row(1, BYTES, 60);
        end.put(1, 59, 9);
        due("the end of the longest", end.stones(1, 59, 8), 1);
        due("count(0)", end.count(0), 6);
        for (int v : new int[] {0, 100, -1, 127, -128}) {
            BothBeside x = new BothBeside();
            bytes(x, 0, 1, 99, v, 5);
            due(v + " is not as it may be", x.stones(0, 0, 4), 2);
            due(v + " at first", x.stones(0, 2, 2), 0);
            due("behind " + v, x.stones(0, 3, 1), 1);
            due("count(0)", x.count(0), 3);
        }
        BothBeside full = brought(1, 1, 1, 1, 1, 1);
        bytes(full, 0, 7, 8, 9);
        due("STONES are FULL behind two", full.stones(0, 0, 3), 2);
        due("of(7, 0)", full.of(7, 0), 8);
        due("STONES are FULL", full.stones(0, 0, 3), 0);
        due("count(0)", full.count(0), 8);
    }

    private static void stonesRefused() {
        says("BAD, -12 (no ROW of bytes; a SHELF that holds nothing is missing).");
        BothBeside x = new BothBeside();
        x.body(0);
        x.keep(1, 0);
        due("a BODY", x.stones(1, 0, 1), OTHER_KIND);
        for (int sort = SHORTS; sort <= BOOLEANS; sort++) {
            x.row(2, sort, 3);
            x.put(2, 0, 1);
            due("of sort " + sort, x.stones(2, 0, 1), OTHER_KIND);
            due("of sort " + sort + ", behind its end", x.stones(2, 9, 1), OTHER_KIND);
            x.row(2, sort, 0);
            due("of sort " + sort + ", of none", x.stones(2, 0, 1), OTHER_KIND);
        }
        due("nothing", x.stones(0, 0, 1), 0);
        due("nothing, n 0", x.stones(0, 0, 0), BAD);
        due("a BODY, BAD ahead of -12, n 0", x.stones(1, 0, 0), BAD);
        due("a BODY, BAD ahead of -12, n 9", x.stones(1, 0, 9), BAD);
        x.row(3, BYTES, 3);
        x.put(3, 0, 4);
        due("of bytes", x.stones(3, 0, 1), 1);
        BothBeside full = brought(1, 1, 1, 1, 1, 1, 1, 1);
        full.row(0, SHORTS, 1);
        due("of shorts, STONES are FULL", full.stones(0, 0, 1), OTHER_KIND);
    }

    private static void counted() {
        says("How many: 0 STONES, 1 in THE ROW, 2 bytes on THE TAPE, 3 changes of numbers that may be UNDONE, 4 BODIES, 5 bodies that ran in the latest act() (all, kept or not). BAD.");
        BothBeside x = new BothBeside();
        for (int what : new int[] {-1, 6, 7, MIN, MAX}) due("count(" + what + ")", x.count(what), BAD);
        for (int what = 0; what < 6; what++) due("none, count(" + what + ")", x.count(what), 0);
        for (int s = 0; s < 8; s++) x.stone(s + 1);
        for (int s = 0; s < 7; s++) x.set(s, 0);
        for (int i = 0; i < 120; i++) x.feed('w');
        for (int i = 0; i < 50; i++) x.body(5);
        for (int i = 0; i < 45; i++) x.mend(0, 0, 10 + i);
        x.undo();
        x.act(0, 3, 1);
        int[] want = {8, 7, 120, 39, 50, 10};
        for (int what = 0; what < 6; what++) due("full, count(" + what + ")", x.count(what), want[what]);
        for (int what : new int[] {-1, 6, 7, MIN, MAX}) due("full, count(" + what + ")", x.count(what), BAD);
    }
}
