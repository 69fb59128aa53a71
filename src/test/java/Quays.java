/** What tests by hand have in common: the answers by name, objects with stones, rows and laws. */
abstract class Quays {
    static final int BAD = -1, NOT = -2, FULL = -3, STATE = -5, VOID = -2000000000;
    static final int NOTHING_THERE = -11, OTHER_KIND = -12, NO_PLACE = -13, BELOW_ZERO = -14;
    static final int MIN = Integer.MIN_VALUE, MAX = Integer.MAX_VALUE;
    static final int BYTES = 0, SHORTS = 1, INTS = 2, LONGS = 3, BOOLEANS = 4;

    static BothBeside brought(int... weights) {
        BothBeside x = new BothBeside();
        for (int w : weights) x.stone(w);
        return x;
    }

    /** Stones of these weights, all in the row in their order. */
    static BothBeside standing(int... weights) {
        BothBeside x = brought(weights);
        for (int s = 0; s < weights.length; s++) x.set(s, s);
        return x;
    }

    static BothBeside inRing(int... weights) {
        BothBeside x = standing(weights);
        x.mend(0, 1, 1);
        return x;
    }

    /** As many stones of weight 1, all in the row in their order, under this law. */
    static BothBeside under(String law, int stones) {
        BothBeside x = new BothBeside();
        for (int s = 0; s < stones; s++) {
            x.stone(1);
            x.set(s, s);
        }
        law(x, law);
        return x;
    }

    static void bytes(BothBeside x, int shelf, int... values) {
        x.row(shelf, BYTES, values.length);
        for (int i = 0; i < values.length; i++) x.put(shelf, i, values[i]);
    }

    static void feed(BothBeside x, String text) {
        for (int i = 0; i < text.length(); i++) x.feed(text.charAt(i));
    }

    static int law(BothBeside x, String text) {
        feed(x, text);
        return x.law();
    }
}
