/** Each promise by runs worked out by hand: ordinary inputs, the edges, wrong inputs. */
public final class Promises extends Quays {
    private static String promise = "";

    private Promises() {
    }

    private static void due(String call, long got, long want) {
        Checks.due(promise + ": " + call, got, want);
    }

    public static void main(String[] args) {
        newObject();
        stone();
        stones();
        mend();
        of();
        feed();
        law();
        faults();
        values();
        set();
        take();
        turn();
        broken();
        maySell();
        ways();
        rows();
        ounces();
        makeUp();
        ends();
        aside();
        soldOn();
        worth();
        fewest();
        book();
        mixed();
        image();
        undo();
        redo();
        body();
        act();
        trace();
        keep();
        row();
        put();
        element();
        shift();
        taken();
        count();
        Checks.end();
    }

    private static void newObject() {
        promise = "1 a new object";
        BothBeside x = new BothBeside();
        for (int what = 0; what <= 5; what++) due("count(" + what + ")", x.count(what), 0);
        due("of(0, 20)", x.of(0, 20), 0);
        due("of(0, 21)", x.of(0, 21), 1);
        due("of(0, 22)", x.of(0, 22), 0);
        due("of(0, 23)", x.of(0, 23), 0);
        for (int s = 0; s < 6; s++) due("taken(" + s + ", 0)", x.taken(s, 0), -11);
        due("back()", x.back(), STATE);
        due("of(0, 0)", x.of(0, 0), BAD);
        x.stone(5);
        due("count(0) of another object", new BothBeside().count(0), 0);
    }

    private static void stone() {
        promise = "2 stone";
        BothBeside x = new BothBeside();
        for (int w : new int[] {0, 100, -1, MIN, MAX}) due("stone(" + w + ")", x.stone(w), BAD);
        due("stone(1)", x.stone(1), 0);
        due("stone(99)", x.stone(99), 1);
        for (int s = 2; s < 8; s++) due("stone(7)", x.stone(7), s);
        due("stone(7)", x.stone(7), FULL);
        due("stone(0)", x.stone(0), BAD);
        due("stone(100)", x.stone(100), BAD);
        due("of(1, 0)", x.of(1, 0), 99);
        due("of(1, 1)", x.of(1, 1), NOT);
        due("count(1)", x.count(1), 0);
    }

    private static void stones() {
        promise = "3 stones";
        BothBeside x = new BothBeside();
        bytes(x, 0, 5, 6, 99, 100, 7);
        due("stones(0, 0, 8)", x.stones(0, 0, 8), 3);
        due("of(2, 0)", x.of(2, 0), 99);
        due("stones(0, 4, 1)", x.stones(0, 4, 1), 1);
        due("stones(0, 4, 3)", x.stones(0, 4, 3), 1);
        due("stones(0, 3, 2)", x.stones(0, 3, 2), 0);
        due("stones(0, 5, 1)", x.stones(0, 5, 1), 0);
        due("stones(0, MAX, 8)", x.stones(0, MAX, 8), 0);
        due("stones(0, -1, 3)", x.stones(0, -1, 3), 0);
        due("stones(0, MIN, 3)", x.stones(0, MIN, 3), 0);
        due("stones(1, 0, 1)", x.stones(1, 0, 1), 0);
        due("count(0)", x.count(0), 5);
        for (int n : new int[] {0, 9, -1, MIN, MAX}) due("stones(0, 0, " + n + ")", x.stones(0, 0, n), BAD);
        for (int s : new int[] {-1, 6, MIN, MAX}) due("stones(" + s + ", 0, 1)", x.stones(s, 0, 1), BAD);
        due("stones(1, 0, 0)", x.stones(1, 0, 0), BAD);
        for (int sort = 1; sort <= 4; sort++) {
            x.row(2, sort, 3);
            x.put(2, 0, 1);
            due("stones of sort " + sort, x.stones(2, 0, 1), -12);
        }
        x.body(0);
        x.keep(2, 0);
        due("stones of a body", x.stones(2, 0, 1), -12);
        due("stones(0, 0, 2)", x.stones(0, 0, 2), 2);
        due("stones(0, 0, 3), one is free", x.stones(0, 0, 3), 1);
        due("of(7, 0)", x.of(7, 0), 5);
        due("stones(0, 0, 3), FULL", x.stones(0, 0, 3), 0);
        BothBeside y = new BothBeside();
        bytes(y, 5, 0, 1, 255);
        due("stones from 0", y.stones(5, 0, 3), 0);
        due("stones from 1, then -1", y.stones(5, 1, 2), 1);
        y.row(0, 0, 60);
        y.put(0, 59, 3);
        bytes(y, 1, 4);
        due("to the end of the longest row", y.stones(0, 59, 2), 1);
        due("count(0)", y.count(0), 2);
    }

    private static void mend() {
        promise = "4 mend";
        BothBeside x = standing(4, 7, 4);
        due("mend(1, 0, 9)", x.mend(1, 0, 9), 7);
        due("mend(1, 0, 99)", x.mend(1, 0, 99), 9);
        due("mend(1, 0, 1)", x.mend(1, 0, 1), 99);
        due("of(1, 0)", x.of(1, 0), 1);
        due("broken() behind it", x.broken(), 0);
        due("mend(0, 1, 1)", x.mend(0, 1, 1), 0);
        due("broken() in the ring", x.broken(), NOT);
        due("mend(0, 1, 1), no change", x.mend(0, 1, 1), 1);
        due("mend(1, 0, 1), no change", x.mend(1, 0, 1), 1);
        due("count(3)", x.count(3), 4);
        int[][] wrong = {{3, 0, 5}, {-1, 0, 5}, {0, 0, 0}, {0, 0, 100}, {0, 0, -4}, {1, 1, 1}, {-1, 1, 1}, {0, 1, 2},
            {0, 1, -1}, {0, 2, 1}, {0, -1, 1}, {MAX, 0, 5}, {MIN, 0, 5}, {0, MAX, 1}, {0, 0, MAX}, {0, 0, MIN}};
        for (int[] a : wrong) due("mend(" + a[0] + ", " + a[1] + ", " + a[2] + ")", x.mend(a[0], a[1], a[2]), BAD);
        due("count(3)", x.count(3), 4);
        due("mend(0, 1, 0) without a stone", new BothBeside().mend(0, 1, 0), 0);
        due("mend(0, 1, 1) without a stone", new BothBeside().mend(0, 1, 1), 0);
        due("of(0, 22)", x.of(0, 22), 3);
    }

    private static void of() {
        promise = "5 of";
        BothBeside x = brought(4, 7, 4, 9);
        x.set(2, 0);
        x.set(0, 0);
        x.set(1, 0);
        due("of(1, 0)", x.of(1, 0), 7);
        due("of(2, 1)", x.of(2, 1), 2);
        due("of(1, 2), 7 beside 4", x.of(1, 2), 0);
        due("of(0, 2), 4 beside 7 and 4", x.of(0, 2), 1);
        due("of(2, 2), 4 beside 4", x.of(2, 2), 1);
        due("of(3, 1)", x.of(3, 1), NOT);
        due("of(3, 2)", x.of(3, 2), NOT);
        due("of(0, 10)", x.of(0, 10), 1);
        due("of(1, 10)", x.of(1, 10), 0);
        due("of(2, 10)", x.of(2, 10), 2);
        due("of(3, 10)", x.of(3, 10), BAD);
        due("of(-1, 10)", x.of(-1, 10), BAD);
        due("of(0, 20)", x.of(0, 20), 0);
        due("of(0, 21)", x.of(0, 21), 0);
        due("of(0, 22)", x.of(0, 22), 3);
        due("of(0, 23): 4; 4 4; 7 4 4", x.of(0, 23), 2);
        x.mend(0, 1, 1);
        due("of(0, 20)", x.of(0, 20), 1);
        due("of(1, 2) in the ring", x.of(1, 2), 1);
        due("of(0, 21)", x.of(0, 21), 1);
        for (int what = 0; what <= 2; what++) {
            for (int s : new int[] {4, -1, 8, MIN, MAX}) due("of(" + s + ", " + what + ")", x.of(s, what), BAD);
        }
        for (int what : new int[] {-1, 3, 9, 11, 19, 24, MIN, MAX}) due("of(0, " + what + ")", x.of(0, what), BAD);
        for (int what = 20; what <= 23; what++) {
            due("of(1, " + what + ")", x.of(1, what), BAD);
            due("of(-1, " + what + ")", x.of(-1, what), BAD);
        }
    }

    private static void feed() {
        promise = "6 feed";
        BothBeside x = new BothBeside();
        for (int c : new int[] {-1, 256, MIN, MAX}) due("feed(" + c + ")", x.feed(c), BAD);
        due("feed(0)", x.feed(0), 1);
        due("feed(255)", x.feed(255), 2);
        for (int i = 3; i <= 120; i++) due("feed(49)", x.feed(49), i);
        due("feed(49)", x.feed(49), FULL);
        due("feed(256)", x.feed(256), BAD);
        due("count(2)", x.count(2), 120);
        due("law()", x.law(), -100);
        due("feed(49)", x.feed(49), 1);
    }

    private static void law() {
        promise = "7 law";
        BothBeside x = standing(9, 1);
        due("of(0, 2) plainly", x.of(0, 2), 0);
        due("law w>r", law(x, "w>r"), 1);
        due("count(2)", x.count(2), 0);
        due("of(0, 2)", x.of(0, 2), 1);
        due("of(1, 2), 1 beside 9, right 0", x.of(1, 2), 1);
        due("law with a fault", law(x, "w>"), -102);
        due("count(2)", x.count(2), 0);
        due("of(0, 2), the law stays", x.of(0, 2), 1);
        due("law() of none", x.law(), -100);
        due("law l", law(x, "l"), 1);
        due("of(0, 2)", x.of(0, 2), 0);
        due("of(1, 2)", x.of(1, 2), 1);
        StringBuilder longest = new StringBuilder("1");
        while (longest.length() < 119) longest.append("-1");
        due("law of 119 bytes", law(x, longest.toString()), 1);
        due("of(0, 2), 1 less 59", x.of(0, 2), 1);
        due("law of 120 bytes ending too early", law(x, longest + "-"), -220);
        StringBuilder lines = new StringBuilder("0?1");
        while (lines.length() < 119) lines.append(";0?1");
        lines.setLength(119);
        due("law of 30 lines", law(x, lines.toString()), 1);
        due("of(0, 21), none counts", x.of(0, 21), 0);
    }

    private static void faults() {
        promise = "7 law, faults";
        Object[][] texts = {
            {"", 0}, {";", 0}, {"?", 0}, {")", 0}, {"+w", 0}, {"x", 0}, {" w", 0}, {"W", 0},
            {"w ", 1}, {"ww", 1}, {"w1", 1}, {"1w", 1}, {"w(", 1}, {"w)", 1}, {"w!", 1}, {"(w", 2}, {"(w;w)", 2},
            {"(w?w)", 2}, {"()", 1}, {"w;", 2}, {"w;;", 2}, {"w?", 2}, {"w?w?w", 3}, {"w?w;w?w?", 7}, {"w?;", 2},
            {"w<l<r", 3}, {"w=l>r", 3}, {"w<=l", 2}, {"(w<l)<r&w<l<r", 11}, {"w<l|w<l&w<l<r", 11},
            {"12345", 4}, {"00001", 4}, {"1234+99999", 9}, {"w+*l", 2}, {"w||l", 2}, {"w&", 2}, {"!", 1}, {"-", 1},
            {"!)", 1}, {"((((((w))))))", -1}, {"(((((((w)))))))", 6}, {"!!!!!!w", -1}, {"!!!!!!!w", 6},
            {"------w", -1}, {"-------w", 6}, {"(-(!(-w))))", 10}, {"(-(!(-w)))", -1}, {"!(-(!(-w)))", 6},
            {"!(-(!(w)))-(-(-(!w)))", -1}, {"!-(w)+!-!-!-w", -1}, {"!-(w)+!-!-!-!w", 12}, {"(w)!", 3}, {"(w)(", 3},
            {"(w)w", 3}, {"(w)1", 3}, {"w--------w", 8}, {"w-------w", -1}, {"w*-l/-r%!n", -1}, {"s", -1}, {"9999", -1},
            {"0000", -1}, {"w;l;r?k;n", -1}, {"w?l&r|k<n", -1}, {"a", 0}, {"w\u0000", 1}, {"w\u00ff", 1}};
        for (Object[] t : texts) {
            int fault = (Integer) t[1];
            due("law of " + t[0], law(new BothBeside(), (String) t[0]), fault < 0 ? 1 : -100 - fault);
        }
    }

    /** Of stones 4, 7, 5, 6 the one of 7 stands at place 1 between 4 and 5; the last one is brought, not set. */
    private static void values() {
        promise = "7 law, values";
        String[] lawful = {"w=7", "l=4", "r=5", "k=1", "n=3", "s=1", "w", "-w", "!0", "!!w=1", "2+3*4=14", "(2+3)*4=20",
            "7/2=3", "-7/2=-3", "-7%3=-1", "7%-3=1", "(5/0)=0", "5%0=0", "10-3-2=5", "100/10/5=2", "2*7%4=2",
            "1|0&0", "(1<2)=1", "5|0=1", "(5|0)=1", "(2&4)=1", "(0|0)=0", "0?0;1", "1?1;0", "0?0;0?0;w", "3<5&5>3",
            "9999*9999*9999+1", "-(9999*9999*9999)>0", "w<l+r", "0<!w+1", "!w+1", "-3-2=-5", "!w=0", "-w*l=-28", "0009=9",
            "9999*9999*9999<0", "k?w", "-w<0|0", "1-1|1", "2-1&1"};
        for (String t : lawful) due("law " + t, lawOf(t), 1);
        String[] unlawful = {"0", "w-7", "0?1", "0?1;0?2", "1?0;1", "!w", "k>1", "n<3", "1&0", "0|0", "3<3", "4>4", "4=5",
            "5/0", "5%0", "2/3", "6%3", "0;1", "1=0|0", "(1|0)&0", "1?w-7;5", "l>r", "s-k"};
        for (String t : unlawful) due("law " + t, lawOf(t), 0);
        BothBeside one = standing(9);
        law(one, "l+r=0");
        due("one stone has none beside it", one.of(0, 21), 1);
        one.mend(0, 1, 1);
        law(one, "l=9&r=9");
        due("in a ring it is beside itself", one.of(0, 21), 1);
        BothBeside two = standing(9, 3);
        two.mend(0, 1, 1);
        law(two, "l=r&w+l=12");
        due("in a ring of two each is both", two.of(0, 21), 1);
        BothBeside three = standing(9, 3, 5);
        three.mend(0, 1, 1);
        law(three, "k=0?l=5&r=3;k=2?l=3&r=9;l=9&r=5");
        due("in a ring of three", three.of(0, 21), 1);
    }

    private static int lawOf(String text) {
        BothBeside x = brought(4, 7, 5, 6);
        x.set(0, 0);
        x.set(1, 1);
        x.set(2, 2);
        int read = law(x, text);
        return read == 1 ? x.of(1, 2) : read;
    }

    private static void set() {
        promise = "8 set";
        BothBeside x = brought(4, 7, 4);
        due("set(1, 0)", x.set(1, 0), 1);
        due("set(0, 0)", x.set(0, 0), 2);
        due("set(2, 1)", x.set(2, 1), 3);
        due("of(0, 10)", x.of(0, 10), 0);
        due("of(1, 10)", x.of(1, 10), 2);
        due("of(2, 10)", x.of(2, 10), 1);
        due("of(0, 22)", x.of(0, 22), 3);
        due("of(0, 23): 7; 4 7; 4 4 7", x.of(0, 23), 3);
        due("set(1, 0)", x.set(1, 0), STATE);
        due("set(1, 4)", x.set(1, 4), BAD);
        due("set(1, -1)", x.set(1, -1), BAD);
        due("set(3, 0)", x.set(3, 0), BAD);
        due("set(-1, 0)", x.set(-1, 0), BAD);
        due("set(MAX, MAX)", x.set(MAX, MAX), BAD);
        due("set(MIN, 0)", x.set(MIN, 0), BAD);
        due("count(1)", x.count(1), 3);
        due("of(0, 22)", x.of(0, 22), 3);
    }

    private static void take() {
        promise = "9 take";
        BothBeside x = standing(4, 7, 5);
        due("take(3)", x.take(3), BAD);
        due("take(-1)", x.take(-1), BAD);
        due("take(MIN)", x.take(MIN), BAD);
        due("take(1)", x.take(1), 1);
        due("of(1, 10)", x.of(1, 10), 2);
        due("of(1, 1)", x.of(1, 1), NOT);
        due("of(0, 22)", x.of(0, 22), 4);
        due("of(0, 23): 4; 4 7; 4 5", x.of(0, 23), 3);
        due("take(1)", x.take(1), 2);
        due("take(0)", x.take(0), 0);
        due("of(0, 23): 4, then none", x.of(0, 23), 4);
        due("take(0)", x.take(0), BAD);
        due("count(1)", x.count(1), 0);
        due("count(0)", x.count(0), 3);
        due("set(1, 0)", x.set(1, 0), 1);
    }

    private static void turn() {
        promise = "10 turn";
        BothBeside x = standing(1, 2, 3, 4);
        due("turn(13)", x.turn(13), 3);
        int[] then = {0, 3, 2, 1};
        for (int p = 0; p < 4; p++) due("of(" + p + ", 10)", x.of(p, 10), then[p]);
        due("turn(3)", x.turn(3), 4);
        due("of(0, 10)", x.of(0, 10), 1);
        due("turn(23)", x.turn(23), 2);
        due("of(3, 10)", x.of(3, 10), 3);
        due("of(0, 22)", x.of(0, 22), 7);
        for (int ij : new int[] {0, 11, 33, 21, 30, 4, 14, 34, -1, -12, 103, MIN, MAX}) {
            due("turn(" + ij + ")", x.turn(ij), BAD);
        }
        due("of(0, 22)", x.of(0, 22), 7);
        BothBeside y = standing(5, 5, 9);
        due("turn(1) of what is lawful nowhere", y.turn(1), 2);
        due("of(0, 23): 5; 5 5 9; the turned one", y.of(0, 23), 3);
    }

    private static void broken() {
        promise = "11 broken";
        due("none", new BothBeside().broken(), NOT);
        due("5 3 9 2", standing(5, 3, 9, 2).broken(), 0);
        due("3 5 9 3", standing(3, 5, 9, 3).broken(), 2);
        due("2 3 1", standing(2, 3, 1).broken(), NOT);
        due("2 3 4", standing(2, 3, 4).broken(), 2);
        due("1", standing(1).broken(), 0);
        BothBeside x = standing(3, 2, 2);
        due("3 2 2", x.broken(), 0);
        x.mend(0, 1, 1);
        due("3 2 2 in a ring", x.broken(), NOT);
        x.mend(1, 0, 9);
        due("3 9 2 in a ring", x.broken(), 1);
        law(x, "k<2");
        due("by k<2", x.broken(), 2);
    }

    private static void maySell() {
        promise = "12 maySell";
        due("none", new BothBeside().maySell(), 0);
        due("a single one", standing(9).maySell(), 1);
        BothBeside x = standing(3, 2, 2);
        due("3 2 2", x.maySell(), 1);
        x.mend(0, 1, 1);
        due("3 2 2 in a ring", x.maySell(), 7);
        due("THE ROW stays", x.count(1), 3);
        BothBeside y = brought(9, 9, 3, 2, 2);
        y.set(4, 0);
        y.set(3, 0);
        y.set(2, 0);
        due("bits of stones, not of places", y.maySell(), 4);
        law(y, "n=2&k=0|s=4");
        due("places and number anew: 3 4, 2 4, 2 3", y.maySell(), 4 | 8);
    }

    private static void ways() {
        promise = "13 ways";
        due("none", new BothBeside().ways(1), 0);
        due("CHANGES of 9 5 5 5", standing(9, 5, 5, 5).ways(0), 2);
        due("CHANGES of 5 9 5 5", standing(5, 9, 5, 5).ways(0), 4);
        BothBeside x = standing(3, 2, 2);
        due("CHANGES of 3 2 2", x.ways(0), 1);
        due("TURNS of 3 2 2", x.ways(1), 1);
        BothBeside y = brought(1, 1, 1, 1);
        for (int s = 0; s < 4; s++) y.set(s, 0);
        law(y, "s=k");
        due("CHANGES of 3 2 1 0 to 0 1 2 3", y.ways(0), 0);
        due("TURNS of 3 2 1 0 to 0 1 2 3", y.ways(1), 1);
        for (int what : new int[] {-1, 2, MIN, MAX}) due("ways(" + what + ")", y.ways(what), BAD);
        due("of(0, 22)", y.of(0, 22), 4);
        due("of(0, 10)", y.of(0, 10), 3);
    }

    private static void rows() {
        promise = "14 rows";
        BothBeside x = brought(9, 5, 5, 5);
        due("rows(15, -1)", x.rows(15, -1), 12);
        int[] first = {1, 0, 2, 3};
        for (int k = 0; k < 4; k++) due("rows(15, " + k + ")", x.rows(15, k), first[k]);
        due("rows(14, -1)", x.rows(14, -1), 6);
        due("rows(3, -1)", x.rows(3, -1), 0);
        due("rows(3, 0)", x.rows(3, 0), NOT);
        due("rows(3, 2)", x.rows(3, 2), BAD);
        due("rows(0, -1)", x.rows(0, -1), 1);
        due("rows(0, 0)", x.rows(0, 0), BAD);
        due("rows(1, 0)", x.rows(1, 0), NOT);
        due("rows(16, -1)", x.rows(16, -1), BAD);
        for (int set : new int[] {-1, 256, MIN, MAX}) due("rows(" + set + ", -1)", x.rows(set, -1), BAD);
        for (int k : new int[] {-2, 4, MIN, MAX}) due("rows(15, " + k + ")", x.rows(15, k), BAD);
        x.mend(0, 1, 1);
        due("rows(15, -1) in a ring", x.rows(15, -1), 24);
        due("rows(15, 0) in a ring", x.rows(15, 0), 0);
        due("rows(1, -1) in a ring", x.rows(1, -1), 1);
        due("rows(3, -1) in a ring, 9 <= 5 + 5", x.rows(3, -1), 2);
        x.mend(0, 0, 11);
        due("rows(15, -1), 11 > 10", x.rows(15, -1), 0);
        due("rows(15, 0)", x.rows(15, 0), NOT);
        law(x, "k=3-s");
        due("by k=3-s", x.rows(15, -1), 1);
        due("by k=3-s", x.rows(15, 0), 3);
        BothBeside eight = brought(1, 1, 1, 1, 1, 1, 1, 1);
        due("rows(255, -1)", eight.rows(255, -1), 40320);
        due("rows(255, 7)", eight.rows(255, 7), 7);
        law(eight, "n=8");
        due("rows(255, -1) by n", eight.rows(255, -1), 40320);
        due("rows(127, -1) by n", eight.rows(127, -1), 0);
    }

    private static void ounces() {
        promise = "15 ounces";
        BothBeside x = standing(9, 5, 5, 5);
        due("ounces(-1)", x.ounces(-1), 4);
        due("ounces(0)", x.ounces(0), 5);
        due("ounces(3)", x.ounces(3), 5);
        due("ounces(4)", x.ounces(4), BAD);
        due("ounces(-2)", x.ounces(-2), BAD);
        due("ounces(MIN)", x.ounces(MIN), BAD);
        due("ounces(MAX)", x.ounces(MAX), BAD);
        law(x, "0");
        due("ounces(-1) without THE LAW", x.ounces(-1), 4);
        x.mend(0, 1, 1);
        due("ounces(-1) in a ring", x.ounces(-1), 0);
        due("of(0, 0), in thought", x.of(0, 0), 9);
        BothBeside y = standing(9, 8, 1, 1);
        due("9 8 1 1 becomes 8 8 1 1", y.ounces(-1), 1);
        BothBeside z = standing(1, 9, 9, 1, 50, 1);
        int[] then = {1, 9, 9, 1, 2, 1};
        due("1 9 9 1 50 1", z.ounces(-1), 48);
        for (int p = 0; p < 6; p++) due("ounces(" + p + ")", z.ounces(p), then[p]);
        BothBeside chain = standing(99, 60, 3, 2, 1);
        int[] behind = {60, 60, 3, 2, 1};
        due("99 60 3 2 1", chain.ounces(-1), 39);
        for (int p = 0; p < 5; p++) due("ounces(" + p + ")", chain.ounces(p), behind[p]);
        BothBeside chipped = standing(1, 50, 2, 50, 60);
        int[] left = {1, 3, 2, 50, 50};
        due("1 50 2 50 60", chipped.ounces(-1), 57);
        for (int p = 0; p < 5; p++) due("ounces(" + p + ")", chipped.ounces(p), left[p]);
        BothBeside one = standing(9);
        due("ounces(-1) of one", one.ounces(-1), NOT);
        due("ounces(0) of one", one.ounces(0), NOT);
        due("ounces(1) of one", one.ounces(1), BAD);
        one.mend(0, 1, 1);
        due("ounces(0) of one in a ring", one.ounces(0), 9);
        due("ounces(-1) of none", new BothBeside().ounces(-1), 0);
        due("ounces(0) of none", new BothBeside().ounces(0), BAD);
        BothBeside two = standing(9, 2);
        due("9 2", two.ounces(-1), 7);
        two.mend(0, 1, 1);
        due("9 2 in a ring becomes 4 2", two.ounces(0), 4);
    }

    private static void makeUp() {
        promise = "16 makeUp";
        BothBeside x = standing(9, 5, 5, 5);
        due("makeUp(0)", x.makeUp(0), 4);
        due("makeUp(1)", x.makeUp(1), 0);
        BothBeside y = standing(5, 5, 5, 9);
        due("makeUp(0)", y.makeUp(0), 4);
        due("makeUp(1)", y.makeUp(1), 4);
        x.mend(0, 1, 1);
        due("makeUp(0) in a ring", x.makeUp(0), 1);
        due("makeUp(1) in a ring", x.makeUp(1), 2);
        due("makeUp(0) of none", new BothBeside().makeUp(0), NOT);
        for (int what : new int[] {-1, 2, MIN, MAX}) due("makeUp(" + what + ")", x.makeUp(what), BAD);
        law(x, "s=8?k=2&w>97;n=5");
        due("by number 8", x.makeUp(0), 98);
        due("by number 8", x.makeUp(1), 2);
        law(x, "s=8?w>98;1");
        due("makeUp(0)", x.makeUp(0), 99);
        law(x, "s=8?w>99;1");
        due("makeUp(0)", x.makeUp(0), NOT);
        due("makeUp(1)", x.makeUp(1), NOT);
        due("count(0)", x.count(0), 4);
        due("count(1)", x.count(1), 4);
        BothBeside full = standing(1, 1, 1, 1, 1, 1, 1, 1);
        law(full, "n=9&(s=8)=(k=8)&(s<8|w=3&l=1)");
        due("a ninth one", full.makeUp(0), 3);
        due("at the end", full.makeUp(1), 8);
    }

    private static void ends() {
        promise = "17 ends";
        BothBeside x = brought(5, 99, 3, 4);
        due("ends(13): 4 5 3", x.ends(13), 2);
        due("ends(1)", x.ends(1), NOT);
        due("ends(15)", x.ends(15), NOT);
        for (int set : new int[] {0, 16, 256, -1, MIN, MAX}) due("ends(" + set + ")", x.ends(set), BAD);
        x.mend(0, 1, 1);
        due("ends(1) in a ring", x.ends(1), 0);
        BothBeside y = brought(1, 1, 1, 1);
        law(y, "k=(s=3)*2+(s=2)*3+(s=0)");
        due("ends(15): 1 0 3 2 can't be", y.ends(15), NOT);
        law(y, "k=(s=2)*2+(s=3)*3+(s=0)");
        due("ends(15): 1 0 2 3", y.ends(15), 4 + 8);
        due("count(1)", y.count(1), 0);
    }

    private static void aside() {
        promise = "18 aside";
        BothBeside x = brought(5, 3, 4, 99);
        due("aside(7)", x.aside(7), 0);
        due("aside(15)", x.aside(15), 8);
        due("aside(8)", x.aside(8), 8);
        due("aside(3): 5 3", x.aside(3), 3);
        for (int set : new int[] {0, 16, 256, -1, MIN, MAX}) due("aside(" + set + ")", x.aside(set), BAD);
        law(x, "n<3");
        due("aside(7)", x.aside(7), 1);
        due("aside(14)", x.aside(14), 2);
        due("aside(15)", x.aside(15), 3);
        law(x, "s");
        due("aside(15) by number", x.aside(15), 1);
        law(x, "0");
        due("aside(11), all", x.aside(11), 11);
    }

    private static void soldOn() {
        promise = "19 soldOn";
        due("none", new BothBeside().soldOn(-1), 0);
        due("none", new BothBeside().soldOn(0), NOT);
        BothBeside x = standing(5, 9, 5, 5);
        due("soldOn(-1)", x.soldOn(-1), 2);
        due("soldOn(0)", x.soldOn(0), 1);
        due("soldOn(1)", x.soldOn(1), 0);
        due("soldOn(2)", x.soldOn(2), NOT);
        due("soldOn(-2)", x.soldOn(-2), BAD);
        due("soldOn(MIN)", x.soldOn(MIN), BAD);
        due("count(1)", x.count(1), 4);
        BothBeside y = brought(1, 1, 1, 1);
        y.set(0, 0);
        y.set(2, 0);
        y.set(3, 0);
        law(y, "1");
        due("soldOn(-1)", y.soldOn(-1), 3);
        due("soldOn(0)", y.soldOn(0), 0);
        due("soldOn(1)", y.soldOn(1), 2);
        due("soldOn(2)", y.soldOn(2), 3);
        due("soldOn(3)", y.soldOn(3), NOT);
        law(y, "!(s=0&n=1)");
        due("soldOn(-1), 0 must not stand alone", y.soldOn(-1), 3);
        law(y, "n=1&s=0|n=2&s");
        due("soldOn(-1): 2 3 or 0 alone", y.soldOn(-1), 1);
        law(y, "s=3|s=2&n=2|s=0&n=0");
        due("3 2, then 3, then none", y.soldOn(-1), 3);
        due("soldOn(2)", y.soldOn(2), 3);
        law(y, "n=3");
        due("THE ROW alone is lawful", y.soldOn(-1), 0);
        due("soldOn(0)", y.soldOn(0), NOT);
    }

    private static void worth() {
        promise = "20 worth";
        BothBeside x = brought(9, 5, 5, 5);
        due("worth(15, 0)", x.worth(15, 0), 6);
        due("worth(15, 1)", x.worth(15, 1), 10);
        due("worth(1, 0)", x.worth(1, 0), -1);
        due("worth(3, 0)", x.worth(3, 0), 0);
        int[][] wrong = {{0, 0}, {14, 0}, {15, 4}, {15, -1}, {16, 4}, {31, 0}, {256, 0}, {-1, 0}, {15, 32}, {15, MAX},
            {15, MIN}, {MAX, 0}, {MIN, 31}};
        for (int[] a : wrong) due("worth(" + a[0] + ", " + a[1] + ")", x.worth(a[0], a[1]), VOID);
    }

    private static void fewest() {
        promise = "21 fewest";
        BothBeside x = standing(9, 5, 5, 5);
        bytes(x, 0, 0, 1, 2, 3);
        due("as it stands, lawful or not", x.fewest(0), 0);
        bytes(x, 0, 1, 0, 2, 3);
        due("one turn", x.fewest(0), 1);
        bytes(x, 0, 3, 2, 1, 0);
        due("not lawful at the end", x.fewest(0), NOT);
        bytes(x, 0, 2, 1, 0, 3);
        due("9 to place 2", x.fewest(0), 1);
        bytes(x, 0, 1, 2, 0, 3);
        due("9 to place 2, 1 2 ahead", x.fewest(0), 2);
        BothBeside y = standing(1, 1, 1);
        bytes(y, 0, 2, 0, 1);
        due("2 0 1", y.fewest(0), 2);
        law(y, "!(s=0&k=2|s=2&k=0&n=3)|(s=2&k=0)");
        due("0 never last", y.fewest(0), 2);
        law(y, "s=2?!(k=0);1");
        due("2 never first", y.fewest(0), NOT);
        law(y, "s=1?k;1");
        bytes(y, 0, 2, 0, 1);
        due("1 never first: 0 2 1, 2 0 1", y.fewest(0), 2);
        bytes(y, 0, 0, 1);
        due("too short", y.fewest(0), STATE);
        bytes(y, 0, 0, 1, 2, 2);
        due("too long", y.fewest(0), STATE);
        bytes(y, 0, 0, 1, 1);
        due("one twice", y.fewest(0), STATE);
        bytes(y, 0, 0, 1, 3);
        due("no such stone", y.fewest(0), STATE);
        bytes(y, 0, 0, -1, 2);
        due("a gap", y.fewest(0), STATE);
        due("fewest(-1)", y.fewest(-1), BAD);
        due("fewest(6)", y.fewest(6), BAD);
        due("fewest(MIN)", y.fewest(MIN), BAD);
        due("fewest(1)", y.fewest(1), -11);
        y.body(0);
        y.keep(1, 0);
        due("of a body", y.fewest(1), -12);
        y.row(1, 2, 3);
        due("of ints", y.fewest(1), -12);
        BothBeside six = standing(1, 1, 1, 1, 1, 1);
        bytes(six, 5, 5, 4, 3, 2, 1, 0);
        due("six, turned", six.fewest(5), 1);
        bytes(six, 5, 2, 0, 4, 1, 5, 3);
        due("six, as far as can be", six.fewest(5), 5);
        BothBeside seven = standing(1, 1, 1, 1, 1, 1, 1);
        due("seven, nothing there", seven.fewest(0), -11);
        bytes(seven, 0, 0, 1, 2, 3, 4, 5, 6);
        due("seven", seven.fewest(0), STATE);
        due("THE ROW stays", six.of(0, 10), 0);
    }

    private static void book() {
        promise = "22 book";
        BothBeside x = brought(9, 5, 5, 5, 7);
        for (int s = 0; s < 4; s++) x.set(s, s);
        bytes(x, 0, -1, 0);
        due("9 at place 1", x.book(0, -1), 6);
        int[] first = {1, 0, 2, 3};
        for (int p = 0; p < 4; p++) due("book(0, " + p + ")", x.book(0, p), first[p]);
        bytes(x, 0);
        due("an empty book", x.book(0, -1), 12);
        bytes(x, 0, 0);
        due("9 at place 0", x.book(0, -1), 0);
        due("the first of none", x.book(0, 0), NOT);
        bytes(x, 0, -1, -1, 0, -1, 7, 9, -5);
        due("what is behind", x.book(0, -1), 6);
        for (int v : new int[] {4, 5, 8, -2, 127, -128}) {
            bytes(x, 0, -1, -1, v);
            due("a book with " + v, x.book(0, -1), 0);
        }
        bytes(x, 0, 1, -1, 1);
        due("one twice", x.book(0, -1), 0);
        due("book(0, 4)", x.book(0, 4), BAD);
        due("book(0, -2)", x.book(0, -2), BAD);
        due("book(0, MAX)", x.book(0, MAX), BAD);
        due("book(-1, -1)", x.book(-1, -1), BAD);
        due("book(6, -1)", x.book(6, -1), BAD);
        due("book(1, -1)", x.book(1, -1), -11);
        due("book(1, 4)", x.book(1, 4), BAD);
        for (int sort = 1; sort <= 4; sort++) {
            x.row(1, sort, 4);
            due("book of sort " + sort, x.book(1, -1), -12);
        }
        x.body(0);
        x.keep(1, 0);
        due("book of a body", x.book(1, -1), -12);
    }

    private static void mixed() {
        promise = "23 mixed";
        BothBeside x = standing(1, 1, 1);
        x.take(2);
        law(x, "s=k");
        // by seed 0 it is 10, 10, 01, 10, 10, 10
        due("mixed(0, 2, -1)", x.mixed(0, 2, -1), 0);
        due("mixed(0, 3, -1)", x.mixed(0, 3, -1), 1);
        due("mixed(0, 6, 0)", x.mixed(0, 6, 0), 1);
        x.set(2, 2);
        // by seed -5 it is 102, 102, 201, 210, 201
        due("mixed(-5, 5, -1)", x.mixed(-5, 5, -1), 0);
        due("mixed(-5, 5, 1)", x.mixed(-5, 5, 1), 1);
        due("mixed(-5, 1, 2)", x.mixed(-5, 1, 2), 1);
        due("mixed(-5, 5, 2)", x.mixed(-5, 5, 2), 2);
        law(x, "1");
        due("mixed(MIN, 50, -1)", x.mixed(MIN, 50, -1), 50);
        x.take(0);
        int[][] wrong = {{0, -1}, {51, -1}, {-1, -1}, {1, 0}, {1, 3}, {1, -2}, {1, 8}, {MIN, -1}, {MAX, -1}, {1, MIN},
            {1, MAX}};
        for (int[] a : wrong) due("mixed(1, " + a[0] + ", " + a[1] + ")", x.mixed(1, a[0], a[1]), BAD);
        due("mixed of none", new BothBeside().mixed(5, 50, -1), 50);
        due("of(0, 22), in thought", x.of(0, 22), 6);
        due("of(0, 10)", x.of(0, 10), 1);
    }

    private static void image() {
        promise = "24, 25 image, back";
        BothBeside x = standing(4, 7, 4, 3);
        due("back()", x.back(), STATE);
        due("image()", x.image(), 4);
        x.turn(3);
        x.take(0);
        x.mend(0, 0, 9);
        x.mend(0, 1, 1);
        due("of(0, 22)", x.of(0, 22), 6);
        due("back()", x.back(), 4);
        for (int p = 0; p < 4; p++) due("of(" + p + ", 10)", x.of(p, 10), p);
        due("of(0, 22)", x.of(0, 22), 4);
        due("of(0, 23): 4; 4 7", x.of(0, 23), 2);
        due("weights stay", x.of(0, 0), 9);
        due("RING stays", x.of(0, 20), 1);
        due("count(3)", x.count(3), 2);
        x.take(0);
        due("back() again", x.back(), 4);
        x.take(1);
        due("image() anew", x.image(), 3);
        x.take(0);
        due("back()", x.back(), 3);
        due("of(1, 10)", x.of(1, 10), 2);
        due("of(0, 22)", x.of(0, 22), 5);
        BothBeside y = new BothBeside();
        due("image() of none", y.image(), 0);
        y.stone(5);
        y.set(0, 0);
        due("back() to none", y.back(), 0);
        due("set(0, 0)", y.set(0, 0), 1);
    }

    private static void undo() {
        promise = "26 undo";
        BothBeside x = standing(4, 7, 4);
        due("undo()", x.undo(), STATE);
        x.mend(0, 0, 9);
        x.mend(0, 1, 1);
        x.mend(0, 0, 8);
        x.mend(5, 0, 8);
        due("undo()", x.undo(), 2);
        due("of(0, 0)", x.of(0, 0), 9);
        due("of(0, 20)", x.of(0, 20), 1);
        due("undo()", x.undo(), 1);
        due("of(0, 20)", x.of(0, 20), 0);
        due("broken() behind it", x.broken(), 0);
        due("undo()", x.undo(), 0);
        due("of(0, 0)", x.of(0, 0), 4);
        due("undo()", x.undo(), STATE);
        BothBeside y = brought(50);
        for (int w = 1; w <= 41; w++) y.mend(0, 0, w);
        due("count(3)", y.count(3), 40);
        for (int left = 39; left >= 0; left--) due("undo()", y.undo(), left);
        due("of(0, 0)", y.of(0, 0), 1);
        due("undo()", y.undo(), STATE);
        for (int left = 39; left >= 0; left--) due("redo()", y.redo(), left);
        due("of(0, 0)", y.of(0, 0), 41);
        due("redo()", y.redo(), STATE);
        BothBeside z = brought(1, 1, 1);
        for (int i = 0; i < 43; i++) z.mend(i % 3, 0, i + 2);
        for (int i = 42; i >= 3; i--) {
            due("undo()", z.undo(), i - 3);
            due("of(" + i % 3 + ", 0)", z.of(i % 3, 0), i - 3 + 2);
        }
        for (int i = 3; i < 43; i++) {
            due("redo()", z.redo(), 42 - i);
            due("of(" + i % 3 + ", 0)", z.of(i % 3, 0), i + 2);
        }
        undoWithoutChange();
    }

    private static void undoWithoutChange() {
        BothBeside x = brought(4, 7);
        due("mend(0, 0, 4)", x.mend(0, 0, 4), 4);
        due("mend(0, 1, 0)", x.mend(0, 1, 0), 0);
        due("count(3), no number has changed", x.count(3), 0);
        due("undo(), no number has changed", x.undo(), STATE);
        x.mend(1, 0, 9);
        x.mend(1, 0, 9);
        x.mend(0, 1, 1);
        x.mend(0, 1, 1);
        due("undo(), two numbers have changed", x.undo(), 1);
        due("of(0, 20)", x.of(0, 20), 0);
        due("undo()", x.undo(), 0);
        due("of(1, 0)", x.of(1, 0), 7);
        due("undo()", x.undo(), STATE);
        BothBeside full = brought(1);
        for (int w = 2; w <= 41; w++) full.mend(0, 0, w);
        full.mend(0, 0, 41);
        for (int left = 39; left >= 0; left--) due("undo(), none was pushed out", full.undo(), left);
        due("of(0, 0)", full.of(0, 0), 1);
    }

    private static void redo() {
        promise = "27 redo";
        BothBeside x = brought(4, 7);
        due("redo()", x.redo(), STATE);
        x.mend(0, 0, 9);
        x.mend(1, 0, 8);
        x.mend(0, 1, 1);
        due("redo()", x.redo(), STATE);
        x.undo();
        x.undo();
        x.undo();
        due("redo()", x.redo(), 2);
        due("of(0, 0)", x.of(0, 0), 9);
        due("count(3)", x.count(3), 1);
        due("redo()", x.redo(), 1);
        due("of(1, 0)", x.of(1, 0), 8);
        x.set(0, 0);
        x.mend(9, 0, 8);
        due("redo(), a deed and a BAD one are none", x.redo(), 0);
        due("of(0, 20)", x.of(0, 20), 1);
        due("redo()", x.redo(), STATE);
        x.undo();
        x.undo();
        x.mend(0, 0, 5);
        due("redo(), another came behind", x.redo(), STATE);
        due("undo()", x.undo(), 1);
        due("of(0, 0)", x.of(0, 0), 9);
        x.mend(0, 0, 9);
        x.mend(0, 1, 0);
        due("redo(), what changes nothing does not come behind", x.redo(), 0);
        due("of(0, 0)", x.of(0, 0), 5);
    }

    private static void body() {
        promise = "28 body";
        BothBeside x = new BothBeside();
        for (int k : new int[] {-1, 8, MIN, MAX}) due("body(" + k + ")", x.body(k), BAD);
        for (int b = 0; b < 50; b++) due("body(" + b % 8 + ")", x.body(b % 8), b);
        due("body(0)", x.body(0), FULL);
        due("body(8)", x.body(8), BAD);
        due("count(4)", x.count(4), 50);
        due("act(49, 0, 1), of LIGHT", x.act(49, 0, 1), 1 + 49 + 3);
    }

    private static void act() {
        promise = "29 act";
        BothBeside x = new BothBeside();
        for (int k = 0; k < 8; k++) x.body(k);
        // by kinds, each its own number n; x = 10
        long[][] want = {
            {10, 20, 10, 20 - 1},
            {10 + 1 + 3, 28, 11, 28 - 0},
            {12, -24, 8, -24 - 3},
            {13, -(11 + 3) * 2, (10 ^ 3) * 3, -28 - 6},
            {17, 34, 14, (34 - 5) ^ 5},
            {15, -32, 15 * 3 - 7, -32 - (4 * 3 - 7) + 1},
            {32, 64, 12, 64 - 7},
            {33, 66 + 5, 13, 71 - 6}};
        for (int b = 0; b < 8; b++) {
            for (int a = 0; a < 4; a++) due("act(" + b + ", " + a + ", 10)", x.act(b, a, 10), want[b][a]);
        }
        due("it wraps", x.act(1, 0, MAX), MIN + 3);
        due("it wraps, x + 1", x.act(3, 1, MAX), -(MIN + 3) * 2);
        due("act(8, 0, 1)", x.act(8, 0, 1), 0);
        due("act(-1, 0, 1)", x.act(-1, 0, 1), 0);
        due("act(0, -1, 1)", x.act(0, -1, 1), 0);
        due("act(0, 4, 1)", x.act(0, 4, 1), 0);
        due("act(MAX, MIN, 1)", x.act(MAX, MIN, 1), 0);
        due("count(5)", x.count(5), 0);
    }

    private static void trace() {
        promise = "30 trace";
        BothBeside x = new BothBeside();
        for (int k = 0; k < 8; k++) x.body(k);
        int[][] traces = {{0, 2, 10, 1, 11}, {1, 2, 10, 20, 1, 11}, {2, 2, 30, 10, 1, 11}, {3, 2, 41, 30, 10, 1, 40, 11},
            {4, 50, 2, 10, 20, 1, 11}, {5, 61, 2, 41, 30, 10, 1, 60, 40, 11, 1}, {6, 2, 10, 70, 1, 11},
            {7, 2, 80, 10, 81, 70, 1, 11, 11}};
        for (int[] t : traces) {
            x.act(t[0], 3, 5);
            due("count(5) of " + t[0], x.count(5), t.length - 1);
            for (int i = 1; i < t.length; i++) due("trace(" + (i - 1) + ") of " + t[0], x.trace(i - 1), t[i]);
            due("trace behind " + t[0], x.trace(t.length - 1), BAD);
        }
        for (int i : new int[] {-1, 24, MIN, MAX}) due("trace(" + i + ")", x.trace(i), BAD);
        x.act(8, 0, 0);
        due("trace(0) behind no act", x.trace(0), BAD);
        x.act(0, 0, 0);
        x.act(0, 4, 0);
        due("trace(0) behind no act", x.trace(0), BAD);
    }

    private static void keep() {
        promise = "31 keep";
        BothBeside x = new BothBeside();
        due("keep(0, 0), no body", x.keep(0, 0), BAD);
        x.body(5);
        due("keep(0, 0)", x.keep(0, 0), 1);
        due("taken(0, 5)", x.taken(0, 5), 5);
        due("keep(0, -1)", x.keep(0, -1), 1);
        due("taken(0, 5)", x.taken(0, 5), -11);
        due("keep(5, 0)", x.keep(5, 0), 1);
        x.row(5, 0, 3);
        due("put(5, 0, 1)", x.put(5, 0, 1), 1);
        due("keep(5, -1)", x.keep(5, -1), 1);
        due("put(5, 0, 1)", x.put(5, 0, 1), -11);
        int[][] wrong = {{6, -1}, {-1, 0}, {0, 1}, {0, -2}, {MIN, 0}, {MAX, -1}, {0, MAX}, {0, MIN}};
        for (int[] a : wrong) due("keep(" + a[0] + ", " + a[1] + ")", x.keep(a[0], a[1]), BAD);
    }

    private static void row() {
        promise = "32 row";
        BothBeside x = new BothBeside();
        due("row(0, 3, 60)", x.row(0, 3, 60), 1);
        due("put(0, 59, 7)", x.put(0, 59, 7), 1);
        due("row(0, 3, 60) anew", x.row(0, 3, 60), 1);
        due("element(0, 59)", x.element(0, 59), 0);
        due("row(1, 0, 0)", x.row(1, 0, 0), 1);
        due("put(1, 0, 7)", x.put(1, 0, 7), -13);
        for (int sort = 0; sort <= 4; sort++) {
            due("row(2, " + sort + ", 1)", x.row(2, sort, 1), 1);
            due("element(2, 0)", x.element(2, 0), 0);
        }
        int[][] wrong = {{0, -1, 1}, {0, 5, 1}, {0, 0, 61}, {0, 0, MAX}, {-1, 0, 1}, {6, 0, 1}, {6, 0, -1}, {0, 5, -1},
            {MAX, MAX, MAX}, {MIN, MIN, MIN}};
        for (int[] a : wrong) due("row(" + a[0] + ", " + a[1] + ", " + a[2] + ")", x.row(a[0], a[1], a[2]), BAD);
        due("row(0, 0, -1)", x.row(0, 0, -1), -14);
        due("row(0, 0, MIN)", x.row(0, 0, MIN), -14);
        due("what was there stays", x.put(0, 59, 7), 1);
    }

    private static void put() {
        promise = "33 put";
        BothBeside x = new BothBeside();
        long[] values = {300, -129, 40000, 3000000000L, -9000000000000000000L, 256, 65536, 1L << 32, -1, 128};
        long[][] kept = {
            {44, 127, 64, (byte) 3000000000L, 0, 0, 0, 0, -1, -128},
            {300, -129, -25536, (short) 3000000000L, (short) -9000000000000000000L, 256, 0, 0, -1, 128},
            {300, -129, 40000, -1294967296, (int) -9000000000000000000L, 256, 65536, 0, -1, 128},
            values,
            {1, 1, 1, 1, 1, 1, 1, 1, 1, 1}};
        for (int sort = 0; sort <= 4; sort++) {
            x.row(sort, sort, 3);
            for (int i = 0; i < values.length; i++) {
                due("put(" + sort + ", 1, " + values[i] + ")", x.put(sort, 1, values[i]), 1);
                due("element(" + sort + ", 1)", x.element(sort, 1), kept[sort][i]);
            }
            x.put(sort, 1, 0);
            due("element(" + sort + ", 1) of 0", x.element(sort, 1), 0);
            for (int i : new int[] {-1, 3, MIN, MAX}) due("put(" + sort + ", " + i + ", 1)", x.put(sort, i, 1), -13);
            due("element ahead", x.element(sort, 0), 0);
            due("element behind", x.element(sort, 2), 0);
        }
        due("put(5, 0, 1)", x.put(5, 0, 1), -11);
        due("put(5, -1, 1)", x.put(5, -1, 1), -11);
        x.body(0);
        x.keep(5, 0);
        due("put(5, 0, 1)", x.put(5, 0, 1), -12);
        for (int s : new int[] {-1, 6, MIN, MAX}) due("put(" + s + ", 0, 1)", x.put(s, 0, 1), BAD);
    }

    private static void element() {
        promise = "34 element";
        BothBeside x = new BothBeside();
        long none = Long.MIN_VALUE;
        due("element(0, 0)", x.element(0, 0), none);
        x.row(0, 3, 2);
        x.put(0, 1, Long.MAX_VALUE);
        due("element(0, 1)", x.element(0, 1), Long.MAX_VALUE);
        for (int i : new int[] {-1, 2, MIN, MAX}) due("element(0, " + i + ")", x.element(0, i), none);
        for (int s : new int[] {-1, 6, MIN, MAX}) due("element(" + s + ", 0)", x.element(s, 0), none);
        x.body(0);
        x.keep(1, 0);
        due("element(1, 0)", x.element(1, 0), none);
    }

    private static void shift() {
        promise = "35 shift";
        BothBeside x = new BothBeside();
        bytes(x, 0, 1, 2, 3, 4, 5);
        due("shift(0, 0, 0, 1, 4)", x.shift(0, 0, 0, 1, 4), 4);
        long[] up = {1, 1, 2, 3, 4};
        for (int i = 0; i < 5; i++) due("element(0, " + i + ")", x.element(0, i), up[i]);
        due("shift(0, 2, 0, 0, 3)", x.shift(0, 2, 0, 0, 3), 3);
        long[] down = {2, 3, 4, 3, 4};
        for (int i = 0; i < 5; i++) due("element(0, " + i + ")", x.element(0, i), down[i]);
        x.row(1, 0, 2);
        due("shift(0, 1, 1, 0, 2)", x.shift(0, 1, 1, 0, 2), 2);
        due("element(1, 0)", x.element(1, 0), 3);
        due("element(1, 1)", x.element(1, 1), 4);
        due("shift(0, 5, 1, 2, 0)", x.shift(0, 5, 1, 2, 0), 0);
        int[][] away = {{0, 6, 1, 0, 0}, {0, 0, 1, 3, 0}, {0, -1, 1, 0, 1}, {0, 0, 1, -1, 1}, {0, 0, 1, 0, -1},
            {0, 4, 1, 0, 2}, {0, 0, 1, 1, 2}, {0, 0, 1, 0, MAX}, {0, MAX, 1, 0, MAX}, {0, 0, 1, MAX, 1},
            {0, MIN, 1, MIN, MIN}};
        for (int[] a : away) {
            due("shift(" + a[0] + ", " + a[1] + ", " + a[2] + ", " + a[3] + ", " + a[4] + ")",
                    x.shift(a[0], a[1], a[2], a[3], a[4]), -13);
        }
        due("shift(0, 0, 2, 0, 1)", x.shift(0, 0, 2, 0, 1), -11);
        due("shift(2, 0, 0, 0, 1)", x.shift(2, 0, 0, 0, 1), -11);
        x.body(0);
        x.keep(3, 0);
        due("a body, nothing", x.shift(3, 0, 2, 0, 1), -11);
        due("a body", x.shift(3, 0, 0, 0, 1), -12);
        due("to a body", x.shift(0, 0, 3, 0, 1), -12);
        due("a body, itself", x.shift(3, 0, 3, 0, 0), -12);
        x.row(2, 1, 5);
        due("unlike sorts", x.shift(0, 0, 2, 0, 1), -12);
        due("unlike sorts, no place", x.shift(0, -1, 2, 0, 1), -12);
        due("shift(6, ..)", x.shift(6, 0, 0, 0, 1), BAD);
        due("shift(.., -1)", x.shift(4, 0, -1, 0, 1), BAD);
        due("shift(MIN, .., MAX)", x.shift(MIN, 0, MAX, 0, 1), BAD);
    }

    private static void taken() {
        promise = "36 taken";
        BothBeside x = new BothBeside();
        int[] above = {-1, 0, 0, 2, 1, 3, 0, 6};
        for (int kind = 0; kind < 8; kind++) {
            int body = x.body(kind);
            x.keep(0, body);
            for (int k = 0; k < 8; k++) {
                boolean under = false;
                for (int u = kind; u >= 0; u = above[u]) under |= u == k;
                due("kind " + kind + " taken(0, " + k + ")", x.taken(0, k), under ? kind : -12);
            }
        }
        due("taken(1, 0)", x.taken(1, 0), -11);
        x.row(1, 0, 1);
        due("taken(1, 0)", x.taken(1, 0), -12);
        int[][] wrong = {{-1, 0}, {6, 0}, {0, -1}, {0, 8}, {2, 8}, {MIN, MIN}, {MAX, MAX}, {0, MIN}};
        for (int[] a : wrong) due("taken(" + a[0] + ", " + a[1] + ")", x.taken(a[0], a[1]), BAD);
    }

    private static void count() {
        promise = "37 count";
        BothBeside x = standing(4, 7, 4);
        x.take(0);
        x.stone(1);
        feed(x, "w<l");
        x.mend(0, 1, 1);
        x.mend(0, 1, 0);
        x.undo();
        x.body(5);
        x.body(0);
        x.act(0, 3, 1);
        int[] want = {4, 2, 3, 1, 2, 10};
        for (int what = 0; what < 6; what++) due("count(" + what + ")", x.count(what), want[what]);
        for (int what : new int[] {-1, 6, MIN, MAX}) due("count(" + what + ")", x.count(what), BAD);
    }
}
