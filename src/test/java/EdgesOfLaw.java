/** The edges of THE LAW: the text on the tape, its faults, what it says; feed, law. */
public final class EdgesOfLaw extends Edges {
    private static final String DIGITS = "0123456789", NAMES = "wlrkns";
    /** What goes on behind an O, outside of ( and ahead of any comparison or ?. */
    private static final String BEHIND = "*/%+-<=>&|?;";
    /** 2 to the 31st, which wraps to the least int. */
    private static final String LEAST = "2*1024*1024*1024";

    private EdgesOfLaw() {
    }

    public static void main(String[] args) {
        bytes();
        tape();
        read();
        theTapeIsEmpty();
        lines();
        either();
        chains();
        oneComparison();
        numbers();
        blanks();
        names();
        weightsBeside();
        sixOpen();
        closedAgain();
        wrapping();
        towardNought();
        byNought();
        oneOrNought();
        whichLine();
        faults();
        tooEarly();
        notNought();
        Checks.end();
    }

    /** Of stones 4, 7 and 5 the one of 7, which stands between them: whether it is lawful, or the fault. */
    private static int lawOf(String text) {
        BothBeside x = standing(4, 7, 5);
        int read = law(x, text);
        return read == 1 ? x.of(1, 2) : read;
    }

    private static void holds(String... texts) {
        for (String t : texts) due(t, lawOf(t), 1);
    }

    private static void holdsNot(String... texts) {
        for (String t : texts) due(t, lawOf(t), 0);
    }

    private static int read(String text) {
        return law(new BothBeside(), text);
    }

    private static void bytes() {
        says("A byte (0 .. 255) comes to THE TAPE: how many it has.");
        BothBeside x = new BothBeside();
        for (int c : new int[] {-1, 256, -255, MIN, MAX}) due("feed(" + c + ")", x.feed(c), BAD);
        due("count(2)", x.count(2), 0);
        due("feed(0)", x.feed(0), 1);
        due("feed(255)", x.feed(255), 2);
        due("feed(119)", x.feed(119), 3);
        due("count(2)", x.count(2), 3);
        due("law(), byte 0 goes on with no TEXT", x.law(), -100);
    }

    private static void tape() {
        says("THE LAW is a TEXT by THE TAPE (at most 120 bytes)");
        says("BAD, FULL (120).");
        BothBeside x = standing(9);
        String text = "60" + "-1".repeat(59);
        for (int i = 0; i < 120; i++) due("feed, the " + (i + 1) + "th", x.feed(text.charAt(i)), i + 1);
        for (int c : new int[] {'1', 0, 255}) due("feed(" + c + ") to a full one", x.feed(c), FULL);
        for (int c : new int[] {-1, 256}) due("feed(" + c + ") to a full one, BAD ahead of FULL", x.feed(c), BAD);
        due("count(2)", x.count(2), 120);
        due("law(), all 120 bytes", x.law(), 1);
        due("60 less 59", x.of(0, 2), 1);
        due("law() of 59 less 59", law(x, "59" + "-1".repeat(59)), 1);
        due("59 less 59", x.of(0, 2), 0);
        due("feed(49), there is room again", x.feed(49), 1);
        x.law();
        due("law() of 120 bytes, each a number or a sign", law(x, "!0" + "+1".repeat(59)), 1);
        due("1 and 59", x.of(0, 2), 1);
        due("law() of 120 bytes, each a number or a sign", law(x, "!1" + "*1".repeat(59)), 1);
        due("0 times 1", x.of(0, 2), 0);
        due("law() of 120 bytes in two lines", law(x, "!1?1;" + "1" + "-1".repeat(57)), 1);
        due("the second line, 1 less 57", x.of(0, 2), 1);
    }

    private static void read() {
        says("THE TAPE becomes THE LAW: 1; -100 less its FAULT");
        BothBeside x = standing(9, 1);
        due("9 1 plainly", x.broken(), 0);
        due("law() of none", x.law(), -100);
        due("9 1, still plainly", x.broken(), 0);
        due("law() of 1", law(x, "1"), 1);
        due("9 1 by it", x.broken(), NOT);
        due("law() of 0;", law(x, "0;"), -102);
        due("9 1, the law that was stays", x.broken(), NOT);
        due("law() of none", x.law(), -100);
        due("9 1, the law that was stays", x.broken(), NOT);
        due("law() of 0", law(x, "0"), 1);
        due("9 1 by it", x.broken(), 0);
        due("law() of k", law(x, "k"), 1);
        due("9 1 by it", x.broken(), 0);
        due("of(1, 2)", x.of(1, 2), 1);
    }

    private static void theTapeIsEmpty() {
        says("THE TAPE is empty then.");
        BothBeside x = new BothBeside();
        feed(x, "w<l");
        due("law()", x.law(), 1);
        due("count(2) behind a TEXT", x.count(2), 0);
        due("law() again", x.law(), -100);
        feed(x, "w<");
        due("law()", x.law(), -102);
        due("count(2) behind a FAULT", x.count(2), 0);
        due("feed('l')", x.feed('l'), 1);
        due("law(), of the last byte alone", x.law(), 1);
    }

    private static void lines() {
        says("LINES, one or more, parted by ;");
        due("no line", read(""), -100);
        due("; alone", read(";"), -100);
        due("w", read("w"), 1);
        due("w;", read("w;"), -102);
        due(";w", read(";w"), -100);
        due("w;;w", read("w;;w"), -102);
        due("w;w", read("w;w"), 1);
        due("60 lines", read("1;".repeat(59) + "1"), 1);
        due("60 lines and ;", read("1;".repeat(60)), -220);
        due("(w;w)", read("(w;w)"), -102);
    }

    private static void either() {
        says("LINE: E, or E ? E (what counts if the first is not 0).");
        due("w?l", read("w?l"), 1);
        due("?l", read("?l"), -100);
        due("w?", read("w?"), -102);
        due("w?;l", read("w?;l"), -102);
        due("w?l?r", read("w?l?r"), -103);
        due("w?l;r?k", read("w?l;r?k"), 1);
        due("w?l;r?k?n", read("w?l;r?k?n"), -107);
        due("(w?l)", read("(w?l)"), -102);
        holds("1?1", "1?7", "-1?1", "0-1?1", "9999?1", "w?l&r");
        holdsNot("1?0", "-1?0", "7?w-7", "2?1-1");
    }

    private static void chains() {
        says("E = A { | A }. A = B { & B }. B = S, or S < S, S = S, S > S. S = P { + P, - P }. P = O { * O, / O, % O }.");
        holds("1|1&0", "0&1|1", "0|0|3", "3|0|0", "1&2&3", "1<2&2<3", "2>1|0", "(2<1+2)=1", "2+3*4=14", "2*3+4=10",
            "10-3-2=5", "10-3+2=9", "100/10/5=2", "100/10*5=50", "2*7%4=2", "7%4*2=6", "7/2*2=6", "20%7/2=3", "1+1=2",
            "3>1+1", "0<!w+1", "!0+1=2", "-2*3=-6", "-2+3=1", "2--3=5", "2-!0=1", "--3=3", "2*-3=-6", "!2=0", "-w+w=0",
            "!(w-7)", "-(2+3)=-5", "(2+3)*4=20", "2*(3+4)=14", "1=1");
        holdsNot("0&1<1", "0&1&0", "1&2&0", "0|0", "0|0|0", "1<2&3<2", "2-2", "3*0", "!w", "!1+0",
            "-0", "w=l|w=r");
        due("60 of |", lawOf("0|".repeat(59) + "1"), 1);
        due("60 of &", lawOf("1&".repeat(59) + "0"), 0);
        due("60 of +", lawOf("1+".repeat(58) + "1=59"), 1);
        due("60 of *", lawOf("1*".repeat(58) + "7=7"), 1);
    }

    private static void oneComparison() {
        says("B = S, or S < S, S = S, S > S.");
        for (String a : new String[] {"<", "=", ">"}) {
            for (String b : new String[] {"<", "=", ">"}) {
                due("w" + a + "l" + b + "r", read("w" + a + "l" + b + "r"), -103);
                due("w" + a + b + "r", read("w" + a + b + "r"), -102);
                due("(w" + a + "l)" + b + "r", read("(w" + a + "l)" + b + "r"), 1);
                due("(w" + a + "l" + b + "r)", read("(w" + a + "l" + b + "r)"), -104);
                due("w" + a + "(l" + b + "r)", read("w" + a + "(l" + b + "r)"), 1);
                due("w" + a + "(l" + b + "r)" + a + "k", read("w" + a + "(l" + b + "r)" + a + "k"), -107);
                due("w" + a + "l&w" + b + "r|w" + a + "l", read("w" + a + "l&w" + b + "r|w" + a + "l"), 1);
                due("w" + a + "l?w" + b + "r;w" + a + "l", read("w" + a + "l?w" + b + "r;w" + a + "l"), 1);
            }
        }
    }

    private static void numbers() {
        says("a number (1 to 4 digits)");
        due("1", read("1"), 1);
        due("1234", read("1234"), 1);
        due("12345", read("12345"), -104);
        due("0000", read("0000"), 1);
        due("00000", read("00000"), -104);
        due("w+12345", read("w+12345"), -106);
        due("1234+1234", read("1234+1234"), 1);
        due("1w", read("1w"), -101);
        due("w1", read("w1"), -101);
        holds("9999=9*1111", "0009=9", "9990+9=9999", "10=9+1", "0=1-1", "0100=99+1");
    }

    private static void blanks() {
        says("No blanks.");
        due("a blank ahead", read(" w"), -100);
        due("a blank behind", read("w "), -101);
        due("a blank between", read("w <l"), -101);
        due("a blank behind a sign", read("w< l"), -102);
        due("a blank in a number", read("1 2"), -101);
        due("a line's end behind", read("w\n"), -101);
        due("a tab ahead", read("\tw"), -100);
    }

    private static void names() {
        says("k the PLACE, n how many stand there, s the stone's number.");
        BothBeside x = brought(1, 1, 1, 1, 1, 1, 1, 1);
        for (int s = 0; s < 8; s++) x.set(7 - s, s);
        law(x, "s=7-k");
        due("s=7-k, of eight turned about", x.of(0, 21), 1);
        law(x, "s=k");
        due("s=k, of eight turned about", x.of(0, 21), 0);
        law(x, "n=8");
        due("n=8", x.of(0, 21), 1);
        x.take(7);
        due("n=8 of seven", x.of(0, 21), 0);
        due("k=1 of the one between", lawOf("k=1"), 1);
        due("n=3", lawOf("n=3"), 1);
        due("s=1", lawOf("s=1"), 1);
        BothBeside one = standing(9);
        law(one, "k=0&n=1&s=0&w=9&l=0&r=0");
        due("one alone", one.of(0, 21), 1);
        due("only these names", read("W"), -100);
    }

    private static void weightsBeside() {
        says("NAMES: w WEIGHT, l, r WEIGHTS of the neighbours on the left, on the right (0: none), k the PLACE, n how many stand there, s the stone's number.");
        BothBeside x = brought(99, 1, 50);
        x.set(2, 0);
        x.set(0, 1);
        x.set(1, 2);
        law(x, "w=50&l=0&r=99&k=0&s=2|w=99&l=50&r=1&k=1&s=0|w=1&l=99&r=0&k=2&s=1");
        due("50 99 1", x.of(0, 21), 1);
        x.mend(2, 0, 51);
        due("51 99 1", x.of(0, 21), 0);
        due("the one of 51", x.of(2, 2), 0);
        due("the one beside it", x.of(0, 2), 0);
        due("the one that is not", x.of(1, 2), 1);
        x.undo();
        x.mend(0, 1, 1);
        due("50 99 1 in a ring, the first", x.of(2, 2), 0);
        due("50 99 1 in a ring, the one between", x.of(0, 2), 1);
        due("50 99 1 in a ring, the last", x.of(1, 2), 0);
        law(x, "n=3");
        due("n=3", x.of(0, 21), 1);
        x.take(0);
        due("n=2", x.of(0, 21), 0);
    }

    private static void sixOpen() {
        says("At most 6 of ( ! - ahead of an O are open at once.");
        String signs = "(!-";
        for (int way = 0; way < 729; way++) {
            StringBuilder open = new StringBuilder();
            StringBuilder close = new StringBuilder();
            for (int i = 0, rest = way; i < 6; i++, rest /= 3) {
                open.append(signs.charAt(rest % 3));
                if (rest % 3 == 0) close.append(')');
            }
            due(open + "w" + close, read(open + "w" + close), 1);
            for (int i = 0; i < 3; i++) {
                due(open + signs.substring(i, i + 1), read(open + signs.substring(i, i + 1) + "w" + close), -106);
            }
        }
    }

    private static void closedAgain() {
        says("At most 6 of ( ! - ahead of an O are open at once.");
        due("six, and six again", read("((((((w))))))+((((((w))))))"), 1);
        due("six, and seven", read("((((((w))))))+(((((((w)))))))"), -120);
        due("! is closed behind its O", read("!!!!!!w+!!!!!!w"), 1);
        due("! is open up to its )", read("!(!!!!w+!!!!w)"), 1);
        due("! is open up to its )", read("!(!!!!w+!!!!!w)"), -112);
        due("- between two is none", read("((((((w-w))))))"), 1);
        due("- between two, then one ahead", read("((((((w--w))))))"), -108);
        due("- between two, then five ahead", read("(w------w)"), 1);
        due("- between two, then six ahead", read("(w-------w)"), -108);
        due("each ( opens one", read("-(w-(w-(w-(w-(w)))))"), 1);
        due("each ( opens one", read("-(w-(w-(w-(w-(w-(w))))))"), -116);
        due("closed ahead of ?", read("((((((w))))))?((((((w))))))"), 1);
        due("closed ahead of ;", read("------w;------w"), 1);
        due("a seventh behind ;", read("------w;-------w"), -114);
        due("a seventh behind ?", read("w?(((((((w)))))))"), -108);
        due("a sixth behind ?", read("w?((((((w))))))"), 1);
        due("a seventh ahead of ?", read("!!!!!!!w?w"), -106);
        for (int i = 0; i < BEHIND.length(); i++) {
            String sign = BEHIND.substring(i, i + 1);
            due("six behind " + sign, read("((((((w))))))" + sign + "!-!-!(w)"), 1);
            due("seven behind " + sign, read("((((((w))))))" + sign + "!-!-!-(w)"), -120);
        }
    }

    private static void wrapping() {
        says("Ints that wrap");
        holds(LEAST + "<0", LEAST + "-1>0", LEAST + "-1+1<0", "4*1024*1024*1024=0", "-(" + LEAST + ")<0",
            "-(" + LEAST + ")=" + LEAST, LEAST + "/-1<0", LEAST + "/-1=" + LEAST, LEAST + "%-1=0", LEAST + "<1",
            "1>" + LEAST, LEAST + "-1>" + LEAST, LEAST + "+" + LEAST + "=0", "9999*9999*9999<0",
            "9999*9999*9999%1000=-969", "9999*9999*9999*9999%1000=1", "!(" + LEAST + ")=0");
        holdsNot(LEAST + ">0", "4*1024*1024*1024", "1<" + LEAST, LEAST + ">1");
    }

    private static void towardNought() {
        says("/ and % toward 0");
        holds("7/2=3", "-7/2=-3", "7/-2=-3", "-7/-2=3", "1/2=0", "-1/2=0", "8/2=4", "-8/2=-4", "7%3=1", "-7%3=-1",
            "7%-3=1", "-7%-3=-1", "6%3=0", "-6%3=0", "2%3=2", "-2%3=-2", "7%1=0", "7/1=7", "7/-1=-7");
    }

    private static void byNought() {
        says("by 0 they give 0");
        holds("5/0=0", "5%0=0", "0/0=0", "0%0=0", "-5/0=0", "-5%0=0", "w/(w-7)=0", "w%(w-7)=0", "1+5/0=1", "(1|5/0)=1",
            "(0&5%0)=0");
        holdsNot("5/0", "w%0", "w/(l-4)");
        BothBeside x = standing(5, 6);
        law(x, "w/l=k");
        due("the first one, by l which is 0", x.of(0, 2), 1);
        due("6 by 5", x.of(1, 2), 1);
    }

    private static void oneOrNought() {
        says("| & < = > ! give 1, 0; all is worked out.");
        holds("(5|0)=1", "(0|5)=1", "(5|7)=1", "(-1|0)=1", "(0|0)=0", "(5&7)=1", "(2&4)=1", "(-1&-2)=1", "(5&0)=0",
            "(0&5)=0", "(0&0)=0", "(1<2)=1", "(2<2)=0", "(2<1)=0", "(2=2)=1", "(2=1)=0", "(1=2)=0", "(2>1)=1",
            "(2>2)=0", "(1>2)=0", "!0=1", "!1=0", "!7=0", "!-1=0", "!!7=1", "!!0=0", "(3<5)+(5>3)+(4=4)=3");
    }

    private static void whichLine() {
        says("The first LINE without a first E, or whose first E is not 0, counts; none: 0.");
        holds("1;0", "0?0;1", "1?1;0", "0?0;0?0;w", "0?0;1?1;0", "2?1;1?0", "-1?1;0", "0?0;1;0", "w-7?0;7", "1?1");
        holdsNot("0;1", "1?0;1", "0?1", "0?1;0?1", "0?1;0?1;0", "0?1;1?0;1", "-1?0;1", "0;1?1", "w-7?1", "0?1;0;1");
        due("29 lines that do not count", lawOf("0?0;".repeat(29) + "1"), 1);
        due("29 lines that do not count", lawOf("0?1;".repeat(29) + "0"), 0);
        due("30 lines, none counts", lawOf("0?1;".repeat(29) + "0?1"), 0);
        due("30 lines, the last counts", lawOf("0?0;".repeat(29) + "1?1"), 1);
    }

    /** What each byte answers behind a text that it goes on with, or not. */
    private static void sweep(String ahead, String whole, String goesOn) {
        for (int c = 0; c < 256; c++) {
            int faultHere = -100 - ahead.length();
            int want = whole.indexOf(c) >= 0 ? 1 : goesOn.indexOf(c) >= 0 ? faultHere - 1 : faultHere;
            due(ahead + " and byte " + c, read(ahead + (char) c), want);
        }
    }

    private static void faults() {
        says("FAULT: the place (from 0) of the first byte with which no TEXT goes on");
        String single = DIGITS + NAMES;
        sweep("", single, "(!-");
        sweep("!", single, "(!-");
        sweep("-", single, "(!-");
        sweep("(", "", single + "(!-");
        for (int i = 0; i < BEHIND.length(); i++) sweep("w" + BEHIND.charAt(i), single, "(!-");
        for (int i = 0; i < NAMES.length(); i++) sweep(NAMES.substring(i, i + 1), "", BEHIND);
        sweep("1", DIGITS, BEHIND);
        sweep("123", DIGITS, BEHIND);
        sweep("1234", "", BEHIND);
        sweep("w<l", "", "*/%+-&|?;");
        sweep("w<l&r", "", BEHIND);
        sweep("w<l|r", "", BEHIND);
        sweep("w<l?r", "", "*/%+-<=>&|;");
        sweep("w?l", "", "*/%+-<=>&|;");
        sweep("w?l;r", "", BEHIND);
        sweep("(w", ")", "*/%+-<=>&|");
        sweep("(w<l", ")", "*/%+-&|");
        sweep("(w)", "", BEHIND);
        sweep("(w)<(l", ")", "*/%+-<=>&|");
        sweep("(w<l)", "", BEHIND);
        sweep("((w)", ")", "*/%+-<=>&|");
        sweep("((((((", "", single);
        sweep("------", single, "");
        sweep("w------", single, "(!-");
        due("the first of two", read("w)l)"), -101);
        due("the last of 120", read("1" + "-1".repeat(59) + "w"), -219);
    }

    private static void tooEarly() {
        says("the length, if it ends too early.");
        due("none", read(""), -100);
        for (String t : new String[] {"(", "!", "-", "w+", "w;", "w?", "(w", "(w)<", "w?l;", "!!!!!!", "((((((1234"}) {
            due(t, read(t), -100 - t.length());
        }
        due("120 bytes", read("1" + "-1".repeat(59) + "-"), -220);
        due("120 bytes, a ( that stays open", read("(1" + "-1".repeat(59)), -220);
    }

    private static void notNought() {
        says("Not 0: that one is LAWFUL there.");
        holds("1", "2", "-1", "9999", "0-9999", LEAST, "w", "-w", "w-8");
        holdsNot("0", "-0", "w-7", "0*w", "l-4", "r-5", "4*1024*1024*1024");
    }
}
