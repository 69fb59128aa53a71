import java.util.Random;

/** Many texts, sound and spoilt: their faults, and what they say of stones in short rows, beside the model's. */
public final class TextRuns {
    private static final int TEXTS = 6000;

    private TextRuns() {
    }

    public static void main(String[] args) {
        Random random = new Random(11);
        for (int i = 0; i < TEXTS; i++) one(random, i);
        Checks.end();
    }

    private static void one(Random random, int run) {
        BothBeside x = new BothBeside();
        Model m = new Model();
        int n = 1 + random.nextInt(4);
        for (int s = 0; s < n; s++) {
            int w = 1 + random.nextInt(99);
            x.stone(w);
            m.stone(w);
            x.set(s, 0);
            m.set(s, 0);
        }
        int ring = random.nextInt(2);
        x.mend(0, 1, ring);
        m.mend(0, 1, ring);
        String t = Texts.lines(random);
        if (random.nextInt(2) == 0) t = Texts.spoilt(random, t);
        if (random.nextInt(4) == 0 && !t.isEmpty()) t = Texts.spoilt(random, t);
        for (int i = 0; i < t.length() && i < 120; i++) {
            x.feed(t.charAt(i));
            m.feed(t.charAt(i));
        }
        String what = "run " + run + ": text " + t + ": ";
        Checks.due(what + "law()", x.law(), m.law());
        for (int s = 0; s < n; s++) Checks.due(what + "of(" + s + ", 2)", x.of(s, 2), m.of(s, 2));
        Checks.due(what + "maySell()", x.maySell(), m.maySell());
        Checks.due(what + "rows", x.rows((1 << n) - 1, -1), m.rows((1 << n) - 1, -1));
    }
}
