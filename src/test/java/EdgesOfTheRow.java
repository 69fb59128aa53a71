/** The edges of part 2: broken, maySell, ways, rows, ounces, makeUp. */
public final class EdgesOfTheRow extends Edges {
    private EdgesOfTheRow() {
    }

    public static void main(String[] args) {
        brokenFirst();
        brokenOrNot();
        sold();
        soldAsBits();
        theRestCloses();
        changes();
        turns();
        waysWhat();
        orders();
        theFirstOrder();
        setsThereAre();
        byRingAsItIs();
        ouncesPlain();
        oneOunceAtLeast();
        ouncesOf();
        madeUpWeight();
        madeUpPlace();
        madeUpByNumberEight();
        madeUpWhat();
        Checks.end();
    }

    private static void brokenFirst() {
        says("BROKEN: the first PLACE in THE ROW that is not LAWFUL; NOT.");
        due("none", new BothBeside().broken(), NOT);
        due("none, by the law 0", under("0", 0).broken(), NOT);
        due("one alone", standing(1).broken(), 0);
        due("one alone in a ring", inRing(1).broken(), NOT);
        due("all of eight are", standing(1, 1, 1, 1, 1, 1, 1, 1).broken(), NOT);
        due("the last of eight", standing(1, 1, 1, 1, 1, 1, 1, 2).broken(), 7);
        due("the first of eight", standing(2, 1, 1, 1, 1, 1, 1, 1).broken(), 0);
        due("the first and the last of three", standing(3, 1, 3).broken(), 0);
        due("the second and the fourth of five", standing(1, 9, 1, 9, 1).broken(), 1);
        BothBeside x = brought(1, 9, 1);
        x.set(2, 0);
        x.set(1, 1);
        due("stone 1 at place 1, stone 2 at place 0", x.broken(), 1);
        x.take(0);
        due("stone 1 at place 0", x.broken(), 0);
    }

    private static void brokenOrNot() {
        says("`int broken()`: BROKEN. NOT.");
        BothBeside x = under("k<3", 8);
        due("the fourth of eight", x.broken(), 3);
        for (int left = 7; left >= 4; left--) {
            x.take(0);
            due("the fourth of " + left, x.broken(), 3);
        }
        x.take(0);
        due("none of three", x.broken(), NOT);
    }

    private static void soldAsBits() {
        says("`int maySell()`: MAY BE SOLD, as bits.");
        for (int s = 0; s < 8; s++) due("all but " + s, under("s=" + s + "|n=8", 8).maySell(), 0);
        for (int s = 0; s < 8; s++) due(s + " alone is not LAWFUL", under("!(s=" + s + ")", 8).maySell(), 1 << s);
        due("0 and 7", under("n=8|!(s=0&k=0)&!(s=7&k=6)", 8).maySell(), 0);
        due("two at the ends", under("n=7&(s-k<1|s-k<2&k>5)", 8).maySell(), 192);
    }

    private static void sold() {
        says("MAY BE SOLD: stones (bits) without any one of which (the rest closes) what stands there is LAWFUL.");
        due("none", new BothBeside().maySell(), 0);
        due("one alone, none is left", standing(9).maySell(), 1);
        due("one alone by the law 0", under("0", 1).maySell(), 1);
        due("two, one alone is left", standing(1, 1).maySell(), 0);
        due("two in a ring", inRing(1, 1).maySell(), 3);
        due("the last of eight", standing(1, 1, 1, 1, 1, 1, 1, 2).maySell(), 128);
        due("any of eight", standing(1, 1, 1, 1, 1, 1, 1, 1).maySell(), 255);
        BothBeside x = brought(9, 9, 9, 1, 1, 1);
        x.set(5, 0);
        x.set(3, 0);
        x.set(4, 0);
        due("4 3 5, stones and not places", x.maySell(), 56);
        due("none was sold", x.count(1), 3);
        due("none was a deed", x.of(0, 22), 3);
        x.take(0);
        x.take(0);
        due("5 alone", x.maySell(), 32);
    }

    private static void theRestCloses() {
        says("(the rest closes)");
        due("3 1 3, 3 beside 3", standing(3, 1, 3).maySell(), 2);
        due("5 1 2 3 in a ring: 1 2 3, 5 2 3", inRing(5, 1, 2, 3).maySell(), 3);
        due("by PLACE behind it", under("s=k|s=k+1", 4).maySell(), 15);
        due("by how many are left", under("n=3", 4).maySell(), 15);
        due("by how many there were", under("n=4", 4).maySell(), 0);
    }

    private static void changes() {
        says("CHANGES: how many pairs of PLACES can change so that it is LAWFUL");
        due("none", new BothBeside().ways(0), 0);
        due("one", inRing(1).ways(0), 0);
        due("two", standing(1, 1).ways(0), 1);
        due("eight", standing(1, 1, 1, 1, 1, 1, 1, 1).ways(0), 28);
        due("what stands is none", under("s=k", 8).ways(0), 0);
        due("the first and the last", under("k=0?s=7;k=7?s=0;s=k", 8).ways(0), 1);
        due("the first two", under("k<2?s=1-k;s=k", 8).ways(0), 1);
        due("the last two", under("k>5?s=13-k;s=k", 8).ways(0), 1);
        due("turned about is none", under("s=7-k", 8).ways(0), 0);
    }

    private static void turns() {
        says("TURNS: how many stretches of PLACES i to j (i below j) can be turned about so that it is.");
        due("none", new BothBeside().ways(1), 0);
        due("one", inRing(1).ways(1), 0);
        due("two", standing(1, 1).ways(1), 1);
        due("eight", standing(1, 1, 1, 1, 1, 1, 1, 1).ways(1), 28);
        due("what stands is none", under("s=k", 8).ways(1), 0);
        due("all of it", under("s=7-k", 8).ways(1), 1);
        due("the first and the last change, which is none", under("k=0?s=7;k=7?s=0;s=k", 8).ways(1), 0);
        due("the first two", under("k<2?s=1-k;s=k", 8).ways(1), 1);
        due("the last two", under("k>5?s=13-k;s=k", 8).ways(1), 1);
        BothBeside x = under("s=7-k", 8);
        for (int what : new int[] {-1, 2, MIN, MAX}) due("ways(" + what + ")", x.ways(what), BAD);
        due("nothing was turned", x.of(0, 10), 0);
        due("none was a deed", x.of(0, 22), 8);
    }

    private static void waysWhat() {
        says("CHANGES (what 0), TURNS (1). BAD.");
        BothBeside x = under("k=0?s=7;k=7?s=0;s=k", 8);
        due("ways(0)", x.ways(0), 1);
        due("ways(1)", x.ways(1), 0);
        BothBeside none = new BothBeside();
        for (int what : new int[] {-1, 2, 10, MIN, MAX}) {
            due("ways(" + what + ")", x.ways(what), BAD);
            due("none, ways(" + what + ")", none.ways(what), BAD);
        }
    }

    private static void orders() {
        says("ROWS of a set of STONES (bits): how many orders of all of them are LAWFUL");
        due("none", new BothBeside().rows(0, -1), 1);
        due("none, by the law 0", under("0", 3).rows(0, -1), 1);
        due("one alone", brought(1).rows(1, -1), 0);
        due("two", brought(1, 1).rows(3, -1), 2);
        due("eight", under("1", 8).rows(255, -1), 40320);
        due("eight, by the law 0", under("0", 8).rows(255, -1), 0);
        due("eight, one order", under("s=k", 8).rows(255, -1), 1);
        due("seven, of them the last", under("1", 8).rows(254, -1), 5040);
        due("they need not stand in THE ROW", brought(1, 1, 1).rows(7, -1), 6);
        BothBeside x = standing(1, 1, 9);
        due("others in THE ROW do not matter", x.rows(3, -1), 2);
        due("9 between 1 and 1", x.rows(7, -1), 0);
    }

    private static void theFirstOrder() {
        says("the first (by numbers, one by one): the stone at a PLACE; NOT.");
        BothBeside x = under("1", 8);
        for (int k = 0; k < 8; k++) due("rows(255, " + k + ")", x.rows(255, k), k);
        due("rows(130, 0)", x.rows(130, 0), 1);
        due("rows(130, 1)", x.rows(130, 1), 7);
        BothBeside last = under("s=7-k", 8);
        for (int k = 0; k < 8; k++) due("the last order, rows(255, " + k + ")", last.rows(255, k), 7 - k);
        BothBeside later = under("!(s=0&k=0)&!(s=0&k=1)", 4);
        int[] first = {1, 2, 0, 3};
        for (int k = 0; k < 4; k++) due("0 not first, not second, rows(15, " + k + ")", later.rows(15, k), first[k]);
        BothBeside none = under("0", 4);
        for (int k = 0; k < 4; k++) due("none, rows(15, " + k + ")", none.rows(15, k), NOT);
        due("none, rows(15, 4), BAD ahead of NOT", none.rows(15, 4), BAD);
        due("none, rows(15, -2), BAD ahead of NOT", none.rows(15, -2), BAD);
        due("none, rows(16, 0), BAD ahead of NOT", none.rows(16, 0), BAD);
    }

    private static void setsThereAre() {
        says("ROWS of a set: how many (k -1), the stone at PLACE k of the first. BAD (a set of those there are, also none); NOT.");
        BothBeside bare = new BothBeside();
        due("no stones, rows(0, -1)", bare.rows(0, -1), 1);
        due("no stones, rows(1, -1)", bare.rows(1, -1), BAD);
        due("no stones, rows(0, 0)", bare.rows(0, 0), BAD);
        BothBeside x = brought(1, 1, 1);
        due("three, rows(7, -1)", x.rows(7, -1), 6);
        for (int set : new int[] {8, 9, 128, 256, -1, -8, MIN, MAX}) due("rows(" + set + ", -1)", x.rows(set, -1), BAD);
        for (int k : new int[] {-2, 3, 8, MIN, MAX}) due("rows(7, " + k + ")", x.rows(7, k), BAD);
        due("rows(5, 1)", x.rows(5, 1), 2);
        due("rows(5, 2), two of them", x.rows(5, 2), BAD);
        due("rows(0, 0)", x.rows(0, 0), BAD);
        BothBeside eight = under("1", 8);
        due("eight, rows(255, 7)", eight.rows(255, 7), 7);
        due("eight, rows(255, 8)", eight.rows(255, 8), BAD);
        due("eight, rows(256, -1)", eight.rows(256, -1), BAD);
    }

    private static void byRingAsItIs() {
        says("(By RING as it is.)");
        BothBeside x = brought(9, 5, 5, 5);
        due("9 5 5 5", x.rows(15, -1), 12);
        due("9, rows(1, -1)", x.rows(1, -1), 0);
        due("the first", x.rows(15, 0), 1);
        x.mend(0, 1, 1);
        due("9 5 5 5 in a ring", x.rows(15, -1), 24);
        due("9 alone in a ring", x.rows(1, -1), 1);
        due("the first in a ring", x.rows(15, 0), 0);
        x.undo();
        due("9 5 5 5 again", x.rows(15, -1), 12);
        BothBeside ends = brought(1, 2, 3);
        law(ends, "k=0?l=3;1");
        due("none at the left of the first", ends.rows(7, -1), 0);
        ends.mend(0, 1, 1);
        due("3 at the left of the first", ends.rows(7, -1), 2);
        due("3 at the left of the first, the last", ends.rows(7, 2), 2);
        law(ends, "k=2?r=2;1");
        due("2 at the right of the last", ends.rows(7, -1), 2);
        due("2 at the right of the last, the first", ends.rows(7, 0), 1);
        law(ends, "k=1?l=1&r=3;1");
        due("between 1 and 3", ends.rows(7, -1), 1);
        due("two, 1 beside 2 alone", ends.rows(3, -1), 0);
        law(ends, "n=2?l=r&l+w=3;n=1?l=w&r=w;0");
        due("two in a ring", ends.rows(3, -1), 2);
        due("one in a ring", ends.rows(4, -1), 1);
        due("three in a ring", ends.rows(7, -1), 0);
        eightByRing("w<l+r+1", 2592, 8128);
        eightByRing("r>l|w>r", 10176, 5760);
        eightByRing("k<7?r>w-40;r=0|r>60", 6144, 1458);
    }

    /** Asked without RING and with it in turn. */
    private static void eightByRing(String law, int without, int with) {
        BothBeside x = brought(10, 24, 31, 45, 52, 66, 73, 87);
        law(x, law);
        for (int i = 0; i < 3; i++) {
            due(law + ", without RING", x.rows(255, -1), without);
            due("mend(0, 1, 1)", x.mend(0, 1, 1), 0);
            due(law + ", with RING", x.rows(255, -1), with);
            due("mend(0, 1, 0)", x.mend(0, 1, 0), 1);
        }
    }

    private static void ouncesPlain() {
        says("OUNCES (plain, without THE LAW)");
        BothBeside x = standing(9, 5, 5);
        law(x, "0");
        due("by the law 0", x.ounces(-1), 4);
        law(x, "1");
        due("by the law 1", x.ounces(-1), 4);
        due("ounces(0)", x.ounces(0), 5);
        due("in thought", x.of(0, 0), 9);
        due("no change of a number", x.count(3), 0);
    }

    private static void oneOunceAtLeast() {
        says("the fewest ounces to be knocked off stones of THE ROW so that it is LAWFUL (WEIGHTS 1 at least)");
        says("NOT: it can't be.");
        due("one alone", standing(1).ounces(-1), NOT);
        due("one alone, the heaviest", standing(99).ounces(-1), NOT);
        due("one alone, its WEIGHT", standing(99).ounces(0), NOT);
        due("one in a ring", inRing(99).ounces(-1), 0);
        due("99 1", standing(99, 1).ounces(-1), 98);
        due("1 99", standing(1, 99).ounces(-1), 98);
        due("1 1", standing(1, 1).ounces(-1), 0);
        due("99 1 in a ring", inRing(99, 1).ounces(-1), 97);
        due("none", new BothBeside().ounces(-1), 0);
        due("none in a ring", inRing().ounces(-1), 0);
        due("99 1 1 1 1 1 1 99", standing(99, 1, 1, 1, 1, 1, 1, 99).ounces(-1), 196);
        due("99 1 1 1 1 1 1 99 in a ring", inRing(99, 1, 1, 1, 1, 1, 1, 99).ounces(-1), 0);
        due("1 1 1 99 1 1 1 1", standing(1, 1, 1, 99, 1, 1, 1, 1).ounces(-1), 97);
        due("99 98 1 1, both beside", standing(99, 98, 1, 1).ounces(-1), 1);
        due("99 60 38 1 in a ring", inRing(99, 60, 38, 1).ounces(-1), 38);
    }

    private static void ouncesOf() {
        says("how many; the WEIGHT at a PLACE then (there is only one way)");
        says("OUNCES: how many (place -1), the WEIGHT at a PLACE. BAD; NOT.");
        BothBeside x = brought(1, 7, 99);
        x.set(2, 0);
        x.set(1, 1);
        due("99 7, ounces(-1)", x.ounces(-1), 92);
        due("99 7, ounces(0)", x.ounces(0), 7);
        due("99 7, ounces(1)", x.ounces(1), 7);
        for (int p : new int[] {-2, 2, 3, 8, MIN, MAX}) due("ounces(" + p + ")", x.ounces(p), BAD);
        BothBeside one = standing(9);
        for (int p : new int[] {-2, 1}) due("one, BAD ahead of NOT, ounces(" + p + ")", one.ounces(p), BAD);
        due("none, ounces(0)", new BothBeside().ounces(0), BAD);
        BothBeside eight = standing(99, 1, 1, 1, 1, 1, 1, 99);
        due("eight, ounces(0)", eight.ounces(0), 1);
        due("eight, ounces(7)", eight.ounces(7), 1);
        due("eight, ounces(8)", eight.ounces(8), BAD);
    }

    private static void madeUpWeight() {
        says("MAKE UP: the least WEIGHT v (1 .. 99) of a stone of number 8");
        due("none", new BothBeside().makeUp(0), NOT);
        due("none, by the law 1", under("1", 0).makeUp(0), 1);
        due("none, in a ring", inRing().makeUp(0), 1);
        due("w=1", under("s=8?w=1;1", 3).makeUp(0), 1);
        due("w>1", under("s=8?w>1;1", 3).makeUp(0), 2);
        due("w=99", under("s=8?w=99;1", 3).makeUp(0), 99);
        due("w>99", under("s=8?w>99;1", 3).makeUp(0), NOT);
        due("w<1", under("s=8?w<1;1", 3).makeUp(0), NOT);
        due("w=99 among eight", under("s=8?w=99;1", 8).makeUp(0), 99);
        due("9 5 5 5", standing(9, 5, 5, 5).makeUp(0), 4);
        due("99 alone, 99 beside it", standing(99).makeUp(0), 99);
        due("99 1 99, which none makes up", standing(99, 1, 1, 99).makeUp(0), NOT);
        due("98 1, then 97", standing(98, 1).makeUp(0), 97);
        due("the others too", under("s=0?r=50;1", 2).makeUp(0), 50);
        due("the least WEIGHT ahead of the least PLACE", under("s=8?w+k=9;1", 8).makeUp(0), 1);
    }

    private static void madeUpPlace() {
        says("put in at some PLACE (0 to how many there are), THE ROW is LAWFUL; the least such PLACE; NOT.");
        due("none", new BothBeside().makeUp(1), NOT);
        due("none, by the law 1", under("1", 0).makeUp(1), 0);
        due("any of nine", under("1", 8).makeUp(1), 0);
        due("the last of nine", under("s=8?k=8;1", 8).makeUp(1), 8);
        due("behind the last of nine", under("s=8?k=9;1", 8).makeUp(1), NOT);
        due("the last of two", under("s=8?k;1", 1).makeUp(1), 1);
        due("the least of some", under("s=8?k>4;1", 8).makeUp(1), 5);
        due("the least WEIGHT ahead of the least PLACE", under("s=8?w+k=9;1", 8).makeUp(1), 8);
        due("w>99", under("s=8?w>99;1", 3).makeUp(1), NOT);
        due("5 5 5 9", standing(5, 5, 5, 9).makeUp(1), 4);
        due("the others move up", under("s=8?k=1;s=0?k=0;s+1=k", 3).makeUp(1), 1);
        due("the others too", under("s=0?r=50;1", 2).makeUp(1), 1);
    }

    private static void madeUpByNumberEight() {
        says("of a stone of number 8");
        BothBeside x = under("s<8|w=7", 8);
        due("by number 8", x.makeUp(0), 7);
        due("n is one more", under("n=4&w=1", 3).makeUp(0), 1);
        due("n is one more", under("n=3", 3).makeUp(0), NOT);
        due("no stone of number 8 is there then", x.of(8, 0), BAD);
        due("none is set", x.count(1), 8);
        due("of three", under("s=8|s<3", 3).makeUp(0), 1);
        due("of three, number 3 is none", under("s<4", 3).makeUp(0), NOT);
    }

    private static void madeUpWhat() {
        says("MAKE UP: the WEIGHT (what 0), the PLACE (1). BAD; NOT.");
        BothBeside x = standing(9, 5, 5, 5);
        for (int what : new int[] {-1, 2, MIN, MAX}) due("makeUp(" + what + ")", x.makeUp(what), BAD);
        due("makeUp(0)", x.makeUp(0), 4);
        due("makeUp(1)", x.makeUp(1), 0);
        due("none, BAD ahead of NOT", new BothBeside().makeUp(2), BAD);
    }
}
