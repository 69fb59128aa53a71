/** The edges of what part 3 has in thought: ends, aside, soldOn, worth, fewest, book, mixed. */
public final class EdgesOfShips extends Edges {
    private EdgesOfShips() {
    }

    public static void main(String[] args) {
        ends();
        endsBits();
        endsOfASet();
        aside();
        asideOfASet();
        soldOn();
        theRowItself();
        theKth();
        worth();
        worthOfNone();
        fewest();
        fromTheRow();
        lawfulBehindEach();
        sixAtMost();
        justThose();
        told();
        book();
        whatLacks();
        theFirstOfABook();
        bookShelf();
        times();
        mixing();
        eachTimeAnew();
        whereItStands();
        mixedOf();
        Checks.end();
    }

    private static void ends() {
        says("A SHIP brings a set of STONES by numbers, the first one is set, each other one at the left or the right end: ENDS: the first way (bits: 1 at the right; of like ones the least) by which all stand LAWFUL at the end; NOT.");
        due("one alone", brought(1).ends(1), NOT);
        due("one alone in a ring", inRing(1).ends(1), 0);
        due("two alike", brought(1, 1).ends(3), 0);
        due("eight, all at the left", under("s=7-k", 8).ends(255), 0);
        due("eight, all at the right", under("s=k", 8).ends(255), 254);
        due("eight, the last at the right", under("s=7?k=7;1", 8).ends(255), 128);
        due("eight, the second at the right", under("s=0?l&r=1&k=6;1", 8).ends(255), 2);
        due("by the law 0", under("0", 8).ends(255), NOT);
        due("the first one between two later ones, the least of two ways", under("s=0?k=1;1", 3).ends(7), 2);
        due("1 0 2", under("s=0?k;s=1?k=0;1", 3).ends(7), 4);
        due("5, 9 5 and 5 9 5, LAWFUL at the end alone", brought(5, 9, 5).ends(7), 0);
        due("9, 9 5 and 9 9 5, not 9 5 9", brought(9, 5, 9).ends(7), 2);
        due("THE ROW does not matter", standing(9, 5, 9).ends(7), 2);
    }

    private static void endsBits() {
        says("as bits (of stones of the set by numbers: the i-th of them; the first one's 0).");
        BothBeside x = under("s=5?k=0;s=2?k=1;s=7?k=2;1", 8);
        due("5 2 7 of 2, 5, 7", x.ends(164), 4);
        due("7 stands alone", under("1", 8).ends(128), 0);
        due("6 7 of 6, 7", under("s=6?k=0;1", 8).ends(192), 2);
        due("7 6 of 6, 7", under("s=7?k=0;1", 8).ends(192), 0);
        due("0 7 of 0, 7", under("s=0?k=0;1", 8).ends(129), 2);
    }

    private static void endsOfASet() {
        says("BAD (a set, not none); NOT.");
        BothBeside x = brought(1, 1, 1);
        for (int set : new int[] {0, 8, 9, 128, 256, -1, -8, MIN, MAX}) due("ends(" + set + ")", x.ends(set), BAD);
        due("ends(7)", x.ends(7), 0);
        due("ends(6)", x.ends(6), 0);
        due("ends(4)", x.ends(4), NOT);
        due("no stones, ends(0)", new BothBeside().ends(0), BAD);
        due("no stones, ends(1)", new BothBeside().ends(1), BAD);
        due("eight, ends(256)", under("1", 8).ends(256), BAD);
        due("none was set", x.count(1), 0);
    }

    private static void aside() {
        says("ASIDE: the fewest of them (bits; of like ones the least) that must be laid aside so that it can be with the rest (0 aside: it can).");
        due("none", brought(1, 1).aside(3), 0);
        due("one alone, plainly", brought(1).aside(1), 1);
        due("one alone in a ring", inRing(99).aside(1), 0);
        due("all of eight", under("0", 8).aside(255), 255);
        due("all of some", under("0", 8).aside(74), 74);
        due("none of eight", under("1", 8).aside(255), 0);
        due("any of eight, the least", under("n<8", 8).aside(255), 1);
        due("any two of eight, the least", under("n<7", 8).aside(255), 3);
        due("seven of eight, the last stays", under("n=1", 8).aside(255), 127);
        due("seven of eight, 3 stays", under("n=1&s=3", 8).aside(255), 247);
        due("the last of eight", under("s<7", 8).aside(255), 128);
        due("7 alone rather than 0 and 1", under("n=7?s<7;n=6?s>1;0", 8).aside(255), 128);
        due("0 and 1, as 7 alone does not do", under("n=7?0;n=6?s>1;0", 8).aside(255), 3);
        due("any of 1, 5, 6, the least", under("n<3", 8).aside(98), 2);
        due("6 of 1, 5, 6", under("s=6?0;1", 8).aside(98), 64);
        due("THE ROW does not matter", standing(1, 1, 99).aside(7), 4);
    }

    private static void asideOfASet() {
        says("ASIDE, as bits of STONES. BAD (a set, not none).");
        BothBeside x = brought(1, 1, 1);
        for (int set : new int[] {0, 8, 9, 128, 256, -1, -8, MIN, MAX}) due("aside(" + set + ")", x.aside(set), BAD);
        due("aside(7)", x.aside(7), 0);
        due("aside(4)", x.aside(4), 4);
        due("no stones, aside(0)", new BothBeside().aside(0), BAD);
        due("no stones, aside(1)", new BothBeside().aside(1), BAD);
        due("eight, aside(256)", under("1", 8).aside(256), BAD);
    }

    private static void soldOn() {
        says("SOLD ON: from THE ROW one after another so that what is left is LAWFUL each time");
        due("none", new BothBeside().soldOn(-1), 0);
        due("one, none is left", standing(9).soldOn(-1), 1);
        due("two, one alone is left", standing(1, 1).soldOn(-1), 0);
        due("two in a ring", inRing(1, 1).soldOn(-1), 2);
        due("eight to two", standing(1, 1, 1, 1, 1, 1, 1, 1).soldOn(-1), 6);
        due("eight to none", under("1", 8).soldOn(-1), 8);
        due("eight, none may go", under("n=8", 8).soldOn(-1), 0);
        due("eight, one may go", under("n=7", 8).soldOn(-1), 1);
        due("each time, not at the end alone", under("n=6", 8).soldOn(-1), 0);
        due("5 9 5 5: 5 5 5, then 5 5", standing(5, 9, 5, 5).soldOn(-1), 2);
        BothBeside x = standing(1, 1, 1);
        due("1 1 1", x.soldOn(-1), 1);
        due("none was sold", x.count(1), 3);
        due("none was a deed", x.of(0, 22), 3);
        BothBeside some = brought(1, 1, 1, 1, 1, 1);
        some.set(5, 0);
        some.set(1, 0);
        some.set(3, 1);
        law(some, "1");
        due("1 3 5 of six", some.soldOn(-1), 3);
        int[] sales = {1, 3, 5};
        for (int k = 0; k < 3; k++) due("1 3 5 of six, soldOn(" + k + ")", some.soldOn(k), sales[k]);
        law(some, "n=0|s=5|s=3&n=2");
        due("1 3 5, 5 last, soldOn(-1)", some.soldOn(-1), 3);
        int[] kept = {1, 3, 5};
        for (int k = 0; k < 3; k++) due("5 last, soldOn(" + k + ")", some.soldOn(k), kept[k]);
    }

    private static void theRowItself() {
        says("(THE ROW itself need not be)");
        BothBeside x = standing(5, 9, 5, 5);
        due("5 9 5 5 is LAWFUL", x.of(0, 21), 1);
        BothBeside y = standing(9, 5, 5, 5);
        due("9 5 5 5 is not", y.of(0, 21), 0);
        due("9 5 5 5, 9 is sold, then one of 5", y.soldOn(-1), 2);
        due("9 5 5 5, the first sold", y.soldOn(0), 0);
        due("of eight not LAWFUL", under("n<8", 8).soldOn(-1), 8);
    }

    private static void theKth() {
        says("the most that can be; the first such row of sales (by numbers): the k-th; NOT.");
        says("SOLD ON: the most (k -1), the k-th sale. BAD; NOT: there are not as many.");
        BothBeside x = under("1", 8);
        for (int k = 0; k < 8; k++) due("eight, soldOn(" + k + ")", x.soldOn(k), k);
        for (int k : new int[] {8, 9, MAX}) due("eight, soldOn(" + k + ")", x.soldOn(k), NOT);
        for (int k : new int[] {-2, -8, MIN}) due("eight, soldOn(" + k + ")", x.soldOn(k), BAD);
        due("none, soldOn(0)", new BothBeside().soldOn(0), NOT);
        due("none, soldOn(-2)", new BothBeside().soldOn(-2), BAD);
        BothBeside one = standing(9);
        due("one, soldOn(0)", one.soldOn(0), 0);
        due("one, soldOn(1)", one.soldOn(1), NOT);
        BothBeside other = brought(9, 9, 9);
        other.set(1, 0);
        due("of three the second alone, soldOn(-1)", other.soldOn(-1), 1);
        due("of three the second alone, soldOn(0)", other.soldOn(0), 1);
        due("of three the second alone, soldOn(1)", other.soldOn(1), NOT);
        BothBeside turned = brought(1, 1, 1);
        for (int s = 0; s < 3; s++) turned.set(s, 0);
        law(turned, "1");
        for (int k = 0; k < 3; k++) due("2 1 0 by numbers, not places, soldOn(" + k + ")", turned.soldOn(k), k);
        BothBeside longer = under("n=2?s;n=1?s=1;n=0", 3);
        int[] sales = {0, 2, 1};
        for (int k = 0; k < 3; k++) due("0, then 2 so that 1 is left, soldOn(" + k + ")", longer.soldOn(k), sales[k]);
        BothBeside most = under("n=1?s=0;1", 3);
        due("0 must be the last one left", most.soldOn(-1), 3);
        int[] kept = {1, 2, 0};
        for (int k = 0; k < 3; k++) due("0 must be the last one left, soldOn(" + k + ")", most.soldOn(k), kept[k]);
    }

    private static void worth() {
        says("WORTH of a stone in a set: how many LAWFUL orders the set has, less how many it has without that stone.");
        due("one alone, none without it", brought(1).worth(1, 0), -1);
        due("one alone in a ring", inRing(1).worth(1, 0), 0);
        due("two, one alone without it", brought(1, 1).worth(3, 1), 2);
        due("the last of eight", under("1", 8).worth(255, 7), 40320 - 5040);
        due("by the law 0, one", under("0", 8).worth(1, 0), -1);
        due("by the law 0, two", under("0", 8).worth(3, 0), 0);
        due("by n=7, below 0", under("n=7", 8).worth(255, 0), -5040);
        due("9 5 5 5, of 9", brought(9, 5, 5, 5).worth(15, 0), 6);
        due("THE ROW does not matter", standing(9, 5, 5, 5).worth(15, 0), 6);
    }

    private static void worthOfNone() {
        says("WORTH. VOID: BAD (not of the set, too).");
        BothBeside x = brought(1, 1, 1);
        int[][] wrong = {{0, 0}, {6, 0}, {5, 1}, {3, 2}, {7, 3}, {7, -1}, {8, 3}, {15, 0}, {256, 0}, {-1, 0}, {7, 8}, {7, 32},
            {7, MAX}, {7, MIN}, {MAX, 0}, {MIN, 0}, {MIN, 31}};
        for (int[] a : wrong) due("worth(" + a[0] + ", " + a[1] + ")", x.worth(a[0], a[1]), VOID);
        due("worth(7, 2)", x.worth(7, 2), 4);
        due("worth(4, 2)", x.worth(4, 2), -1);
        due("eight, worth(256, 7)", under("1", 8).worth(256, 7), VOID);
        due("no stones, worth(0, 0)", new BothBeside().worth(0, 0), VOID);
        due("no stones, worth(1, 0)", new BothBeside().worth(1, 0), VOID);
    }

    private static void fewest() {
        says("FEWEST turns of stretches (i below j) from THE ROW to a told row (a ROW of bytes of stones on a SHELF)");
        BothBeside x = under("1", 6);
        bytes(x, 0, 0, 1, 2, 3, 4, 5);
        due("it stands there, none", x.fewest(0), 0);
        bytes(x, 0, 5, 4, 3, 2, 1, 0);
        due("all turned", x.fewest(0), 1);
        bytes(x, 0, 0, 1, 2, 3, 5, 4);
        due("the last two", x.fewest(0), 1);
        bytes(x, 0, 1, 0, 2, 3, 4, 5);
        due("the first two", x.fewest(0), 1);
        bytes(x, 0, 5, 1, 2, 3, 4, 0);
        due("the ends change", x.fewest(0), 2);
        bytes(x, 0, 2, 0, 4, 1, 5, 3);
        due("the farthest of six", x.fewest(0), 5);
        due("the farthest of six again", x.fewest(0), 5);
        bytes(x, 1, 1, 2, 0, 3, 4, 5);
        due("another one", x.fewest(1), 2);
        due("the farthest of six once more", x.fewest(0), 5);
        due("THE ROW stays", x.of(0, 10), 0);
        due("none was a deed", x.of(0, 22), 6);
        BothBeside none = new BothBeside();
        bytes(none, 0);
        due("none to none", none.fewest(0), 0);
        BothBeside one = standing(9);
        bytes(one, 0, 0);
        due("one to itself", one.fewest(0), 0);
    }

    private static void fromTheRow() {
        says("from THE ROW to a told row");
        BothBeside x = under("1", 3);
        bytes(x, 0, 0, 1, 2);
        bytes(x, 1, 1, 2, 0);
        bytes(x, 2, 2, 1, 0);
        due("0 1 2 to 0 1 2", x.fewest(0), 0);
        due("0 1 2 to 1 2 0", x.fewest(1), 2);
        due("0 1 2 to 2 1 0", x.fewest(2), 1);
        x.turn(2);
        due("2 1 0 to 0 1 2", x.fewest(0), 1);
        due("2 1 0 to 1 2 0", x.fewest(1), 1);
        due("2 1 0 to 2 1 0", x.fewest(2), 0);
        x.turn(12);
        due("2 0 1 to 0 1 2", x.fewest(0), 2);
        due("2 0 1 to 1 2 0", x.fewest(1), 2);
        due("2 0 1 to 2 1 0", x.fewest(2), 1);
        x.take(0);
        bytes(x, 3, 1, 0);
        due("0 1 to 1 0", x.fewest(3), 1);
        due("0 1 to 2 1 0", x.fewest(2), STATE);
    }

    private static void lawfulBehindEach() {
        says("what stands there being LAWFUL behind each turn");
        BothBeside x = standing(9, 5, 5, 5);
        bytes(x, 0, 0, 1, 2, 3);
        due("no turn, LAWFUL or not", x.fewest(0), 0);
        bytes(x, 0, 1, 0, 2, 3);
        due("from what is not LAWFUL", x.fewest(0), 1);
        bytes(x, 0, 0, 2, 1, 3);
        due("to what is not LAWFUL", x.fewest(0), NOT);
        bytes(x, 0, 3, 2, 1, 0);
        due("to what is not LAWFUL, by one turn", x.fewest(0), NOT);
        BothBeside y = under("s=1?k;1", 3);
        bytes(y, 0, 2, 0, 1);
        due("by 2 1 0 or 0 2 1, not 1 0 2", y.fewest(0), 2);
        BothBeside longer = under("s=0?k<2;1", 3);
        bytes(longer, 0, 1, 0, 2);
        due("one turn", longer.fewest(0), 1);
        bytes(longer, 0, 2, 0, 1);
        due("0 not last", longer.fewest(0), 2);
        BothBeside cut = under("s=k", 3);
        bytes(cut, 0, 1, 2, 0);
        due("nothing else is LAWFUL", cut.fewest(0), NOT);
        BothBeside apart = under("s=k|s=(k+1)%3", 3);
        bytes(apart, 0, 1, 2, 0);
        due("1 2 0 is LAWFUL, what stands ahead of it is not", apart.fewest(0), NOT);
        apart.turn(2);
        due("from 2 1 0, which is not", apart.fewest(0), 1);
        apart.turn(1);
        due("from 1 2 0 itself", apart.fewest(0), 0);
    }

    private static void sixAtMost() {
        says("(at most 6 stones, else STATE; STATE, too: not just those in THE ROW, each once)");
        BothBeside x = under("1", 7);
        due("seven, nothing there, -11 ahead of STATE", x.fewest(0), NOTHING_THERE);
        x.row(0, SHORTS, 7);
        due("seven, shorts, -12 ahead of STATE", x.fewest(0), OTHER_KIND);
        bytes(x, 0, 0, 1, 2, 3, 4, 5, 6);
        due("seven", x.fewest(0), STATE);
        x.take(6);
        due("six, seven told", x.fewest(0), STATE);
        bytes(x, 0, 0, 1, 2, 3, 4, 5);
        due("six", x.fewest(0), 0);
        BothBeside eight = under("1", 8);
        bytes(eight, 0, 0, 1, 2, 3, 4, 5, 6, 7);
        due("eight", eight.fewest(0), STATE);
        bytes(eight, 0, 0, 1, 2, 3, 4, 5);
        due("eight, six told", eight.fewest(0), STATE);
    }

    private static void justThose() {
        says("STATE, too: not just those in THE ROW, each once");
        BothBeside x = brought(1, 1, 1, 1);
        for (int s = 0; s < 3; s++) x.set(s, s);
        int[][] wrong = {{}, {0}, {0, 1}, {0, 1, 2, 2}, {0, 1, 2, 3}, {0, 1, 2, -1}, {0, 1, 1}, {0, 0, 0}, {0, 1, 3},
            {0, 1, 4}, {0, 1, 8}, {-1, 1, 2}, {-1, -1, -1}, {0, 1, -2}, {127, 1, 0}, {-128, 1, 0}, {0, 1, 34}};
        for (int[] row : wrong) {
            bytes(x, 0, row);
            due("told " + java.util.Arrays.toString(row), x.fewest(0), STATE);
        }
        bytes(x, 0, 2, 1, 0);
        due("told 2 1 0", x.fewest(0), 1);
        BothBeside none = brought(1);
        bytes(none, 0, 0);
        due("none, one told", none.fewest(0), STATE);
        bytes(none, 0);
        due("none, none told", none.fewest(0), 0);
    }

    private static void told() {
        says("FEWEST. BAD, -11, -12 (no ROW of bytes); STATE; NOT.");
        BothBeside x = standing(1, 1);
        for (int s : new int[] {-1, 6, MIN, MAX}) due("fewest(" + s + ")", x.fewest(s), BAD);
        for (int s = 0; s < 6; s++) due("fewest(" + s + "), nothing there", x.fewest(s), NOTHING_THERE);
        for (int sort = SHORTS; sort <= BOOLEANS; sort++) {
            x.row(1, sort, 2);
            x.put(1, 1, 1);
            due("fewest of sort " + sort, x.fewest(1), OTHER_KIND);
        }
        x.body(0);
        x.keep(5, 0);
        due("fewest of a body", x.fewest(5), OTHER_KIND);
        bytes(x, 5, 1, 0);
        due("fewest(5)", x.fewest(5), 1);
        x.keep(5, -1);
        due("fewest(5), nothing there again", x.fewest(5), NOTHING_THERE);
    }

    private static void book() {
        says("A BOOK: a ROW of bytes: by PLACES a stone, or -1 (a gap): how many orders of the stones in THE ROW are LAWFUL and fit it");
        BothBeside x = under("1", 8);
        bytes(x, 0, -1, -1, -1, -1, -1, -1, -1, -1);
        due("gaps alone", x.book(0, -1), 40320);
        bytes(x, 0, 7, 6, 5, 4, 3, 2, 1, 0);
        due("all told", x.book(0, -1), 1);
        bytes(x, 0, -1, -1, -1, -1, -1, -1, -1, 7);
        due("the last told", x.book(0, -1), 5040);
        bytes(x, 0, 0);
        due("the first told", x.book(0, -1), 5040);
        bytes(x, 0, 3, -1, 3);
        due("one told twice", x.book(0, -1), 0);
        for (int v : new int[] {8, -2, 127, -128, 100}) {
            bytes(x, 0, v);
            due("no stone: " + v, x.book(0, -1), 0);
            bytes(x, 0, -1, -1, -1, -1, -1, -1, -1, v);
            due("no stone at the end: " + v, x.book(0, -1), 0);
        }
        x.take(0);
        bytes(x, 0, 0);
        due("not in THE ROW", x.book(0, -1), 0);
        bytes(x, 0, 1);
        due("in THE ROW", x.book(0, -1), 720);
        BothBeside none = new BothBeside();
        bytes(none, 0);
        due("none", none.book(0, -1), 1);
        bytes(none, 0, 5);
        due("none, what is behind", none.book(0, -1), 1);
        due("by the law 0, none", bookOf("0", 0), 1);
        due("by the law 0, one", bookOf("0", 1), 0);
        due("one alone", bookOf("k=0", 1), 1);
    }

    private static int bookOf(String law, int stones) {
        BothBeside x = under(law, stones);
        bytes(x, 0);
        return x.book(0, -1);
    }

    private static void whatLacks() {
        says("(what lacks in it does not matter, nor what is behind)");
        BothBeside x = under("1", 3);
        bytes(x, 0);
        due("all of it lacks", x.book(0, -1), 6);
        bytes(x, 0, -1, 0);
        due("the last lacks", x.book(0, -1), 2);
        bytes(x, 0, -1, 0, -1);
        due("none lacks", x.book(0, -1), 2);
        bytes(x, 0, -1, 0, -1, 0);
        due("one is behind", x.book(0, -1), 2);
        bytes(x, 0, -1, 0, -1, 9, -7, 2, 100, 1, 0, 0);
        due("some are behind", x.book(0, -1), 2);
        x.row(1, BYTES, 60);
        due("sixty of 0", x.book(1, -1), 0);
        for (int i = 0; i < 3; i++) x.put(1, i, 2 - i);
        due("2 1 0 and 57 of 0 behind", x.book(1, -1), 1);
    }

    private static void theFirstOfABook() {
        says("A BOOK: how many (place -1), the stone at a PLACE of the first. BAD, -11, -12 (no ROW of bytes); NOT.");
        BothBeside x = under("1", 8);
        bytes(x, 0, -1, 7, -1, 0);
        int[] first = {1, 7, 2, 0, 3, 4, 5, 6};
        for (int p = 0; p < 8; p++) due("book(0, " + p + ")", x.book(0, p), first[p]);
        for (int p : new int[] {-2, 8, 9, MIN, MAX}) due("book(0, " + p + ")", x.book(0, p), BAD);
        for (int p : new int[] {-2, 8}) due("nothing there, BAD ahead of -11, book(1, " + p + ")", x.book(1, p), BAD);
        x.row(2, INTS, 8);
        for (int p : new int[] {-2, 8}) due("ints, BAD ahead of -12, book(2, " + p + ")", x.book(2, p), BAD);
        bytes(x, 0, 8);
        for (int p = 0; p < 8; p++) due("none fits, book(0, " + p + ")", x.book(0, p), NOT);
        due("none fits, BAD ahead of NOT", x.book(0, 8), BAD);
        BothBeside some = brought(1, 1, 1, 1);
        some.set(3, 0);
        some.set(1, 0);
        law(some, "1");
        bytes(some, 0);
        due("1 3, the first", some.book(0, 0), 1);
        due("1 3, the second", some.book(0, 1), 3);
        due("1 3, no third", some.book(0, 2), BAD);
        BothBeside none = new BothBeside();
        bytes(none, 0);
        due("none, book(0, 0)", none.book(0, 0), BAD);
    }

    private static void bookShelf() {
        says("BAD, -11, -12 (no ROW of bytes); NOT.");
        BothBeside x = standing(1, 1);
        for (int s : new int[] {-1, 6, MIN, MAX}) due("book(" + s + ", -1)", x.book(s, -1), BAD);
        for (int s = 0; s < 6; s++) due("book(" + s + ", -1), nothing there", x.book(s, -1), NOTHING_THERE);
        for (int sort = SHORTS; sort <= BOOLEANS; sort++) {
            x.row(1, sort, 2);
            due("book of sort " + sort, x.book(1, -1), OTHER_KIND);
            due("book of sort " + sort + ", the first", x.book(1, 0), OTHER_KIND);
        }
        x.body(0);
        x.keep(5, 0);
        due("book of a body", x.book(5, -1), OTHER_KIND);
        bytes(x, 5);
        due("book(5, -1)", x.book(5, -1), 2);
    }

    private static void times() {
        says("MIXED: n times (1 .. 50)");
        BothBeside x = under("1", 8);
        for (int n : new int[] {0, 51, -1, -50, MIN, MAX}) due("mixed(1, " + n + ", -1)", x.mixed(1, n, -1), BAD);
        for (int n = 1; n <= 50; n++) due("mixed(1, " + n + ", -1)", x.mixed(1, n, -1), n);
        due("mixed(1, 50, 7)", x.mixed(1, 50, 7), 50);
        due("none in THE ROW", new BothBeside().mixed(1, 50, -1), 50);
        due("one alone", standing(9).mixed(1, 50, -1), 0);
        due("one alone in a ring", inRing(9).mixed(1, 50, -1), 50);
    }

    /** By a law under which but one order is LAWFUL it is seen what the mixing comes to. */
    private static void mixing() {
        says("for i from the last PLACE to 1: z = z * 1103515245 + 12345 (an int; SEED at first), PLACES i and (z >>> 8) % (i + 1) change");
        int[] seeds = {0, 1, -1, 7, 255, 256, -256, 1 << 31, MAX, MIN + 1, 1 << 30, 123456789, -987654321};
        for (int n = 1; n <= 8; n++) {
            for (int seed : seeds) mixing(n, seed);
        }
        due("by seed 7, of two, three times: 0 1, 0 1, 1 0", mixedTo("s=k", 2, 7, 3), 2);
        due("by seed 7, of two, two times", mixedTo("s=k", 2, 7, 2), 2);
    }

    private static int mixedTo(String law, int stones, int seed, int times) {
        return under(law, stones).mixed(seed, times, -1);
    }

    private static void mixing(int n, int seed) {
        int z = seed;
        StringBuilder wanted = new StringBuilder();
        int[] often = new int[3];
        String[] seen = new String[3];
        for (int t = 0; t < 3; t++) {
            int[] row = new int[n];
            for (int p = 0; p < n; p++) row[p] = p;
            for (int i = n - 1; i >= 1; i--) {
                z = z * 1103515245 + 12345;
                int j = (z >>> 8) % (i + 1);
                int kept = row[i];
                row[i] = row[j];
                row[j] = kept;
            }
            wanted.setLength(0);
            for (int p = 0; p < n - 1; p++) wanted.append("k=" + p + "?s=" + row[p] + ";");
            seen[t] = wanted + "1";
        }
        for (int t = 0; t < 3; t++) {
            for (int u = 0; u < 3; u++) if (seen[u].equals(seen[t])) often[t]++;
            due("of " + n + " by seed " + seed + " to " + seen[t], mixedTo(seen[t], n, seed, 3), often[t]);
        }
    }

    private static void eachTimeAnew() {
        says("MIXED: n times (1 .. 50) by a SEED, in thought: from THE ROW each time anew");
        BothBeside x = under("s=k", 2);
        int before = 0;
        int z = 99;
        for (int n = 1; n <= 50; n++) {
            z = z * 1103515245 + 12345;
            if ((z >>> 8) % 2 == 1) before++;
            due("by seed 99, mixed(99, " + n + ", -1)", x.mixed(99, n, -1), before);
        }
        due("THE ROW stays", x.of(0, 10), 0);
        x.turn(1);
        due("from 1 0, mixed(99, 50, -1)", x.mixed(99, 50, -1), 50 - before);
        due("no deed", x.of(0, 22), 3);
    }

    private static void whereItStands() {
        says("how often it is LAWFUL; how often a stone is LAWFUL where it stands.");
        BothBeside x = under("s=0", 3);
        due("0, each time", x.mixed(4, 20, 0), 20);
        due("2, never", x.mixed(4, 20, 2), 0);
        due("all of them, never", x.mixed(4, 20, -1), 0);
        law(x, "s=1&k=2|s=2&k=2");
        int last = x.mixed(4, 50, 1) + x.mixed(4, 50, 2);
        law(x, "!(s=0&k=2)");
        due("0 is last whenever neither 1 nor 2 is", x.mixed(4, 50, 0), last);
        due("it is LAWFUL then", x.mixed(4, 50, -1), last);
        due("1 is LAWFUL each time", x.mixed(4, 50, 1), 50);
    }

    private static void mixedOf() {
        says("MIXED: how often it is LAWFUL (stone -1), how often a STONE of THE ROW. BAD.");
        BothBeside x = brought(1, 1, 1, 1);
        for (int s = 0; s < 3; s++) x.set(s, s);
        law(x, "s=0");
        due("mixed(5, 50, 0)", x.mixed(5, 50, 0), 50);
        due("mixed(5, 50, 1)", x.mixed(5, 50, 1), 0);
        due("mixed(5, 50, 2)", x.mixed(5, 50, 2), 0);
        due("mixed(5, 50, -1)", x.mixed(5, 50, -1), 0);
        due("mixed(5, 50, 3), not in THE ROW", x.mixed(5, 50, 3), BAD);
        for (int s : new int[] {-2, 4, 7, 8, MIN, MAX}) due("mixed(5, 50, " + s + ")", x.mixed(5, 50, s), BAD);
        due("none, mixed(5, 1, 0)", new BothBeside().mixed(5, 1, 0), BAD);
        law(x, "k=2");
        int often = x.mixed(5, 50, 0) + x.mixed(5, 50, 1) + x.mixed(5, 50, 2);
        due("each time one of them is last", often, 50);
        due("in thought", x.of(0, 10), 0);
        due("none was a deed", x.of(0, 22), 3);
    }
}
