import java.util.Random;

/** Calls with any ints at all, and the dearest ones with eight stones: none throws, and they stay in their room. */
public final class WildRuns {
    private static final int[] ODD = {Integer.MIN_VALUE, Integer.MIN_VALUE + 1, Integer.MAX_VALUE, Integer.MAX_VALUE - 1,
        -1000000, -2, -1, 0, 1, 2, 5, 6, 7, 8, 9, 10, 31, 32, 33, 49, 50, 59, 60, 61, 99, 100, 119, 120, 255, 256, 1 << 30};

    private WildRuns() {
    }

    public static void main(String[] args) {
        for (int run = 0; run < 400; run++) wild(new Random(run), run);
        dearest();
        room();
        Checks.end();
    }

    private static void wild(Random r, int run) {
        BothBeside x = new BothBeside();
        for (int i = 0; i < 512; i++) {
            int what = r.nextInt(38);
            int[] a = new int[5];
            for (int j = 0; j < a.length; j++) a[j] = r.nextInt(3) == 0 ? ODD[r.nextInt(ODD.length)] : r.nextInt(10) - 1;
            try {
                Calls.call(x, what, a, r.nextLong());
            } catch (RuntimeException | StackOverflowError e) {
                Checks.due("run " + run + " call " + what + " threw " + e, 1, 0);
            }
        }
        Checks.due("run " + run + " ended", 0, 0);
    }

    private static BothBeside eight(String law) {
        BothBeside x = new BothBeside();
        for (int s = 0; s < 8; s++) {
            x.stone(90 + s);
            x.set(s, s);
        }
        for (int i = 0; i < law.length(); i++) x.feed(law.charAt(i));
        Checks.due("law " + law, law.isEmpty() ? 1 : x.law(), 1);
        return x;
    }

    private static void dearest() {
        StringBuilder law = new StringBuilder("w");
        while (law.length() < 119) law.append("+l");
        for (int ring = 0; ring < 2; ring++) {
            BothBeside x = eight(law.toString());
            x.mend(0, 1, ring);
            for (int i = 0; i < 50; i++) {
                Checks.due("rows(255, -1)", x.rows(255, -1), 40320);
                Checks.due("worth(255, 7)", x.worth(255, 7), 40320 - 5040);
                Checks.due("soldOn(7)", x.soldOn(7), 7);
            }
            BothBeside none = eight("0*(" + law.substring(0, 115) + ")");
            none.mend(0, 1, ring);
            for (int i = 0; i < 50; i++) {
                Checks.due("makeUp(0)", none.makeUp(0), -2);
                Checks.due("aside(255)", none.aside(255), 255);
            }
        }
    }

    /** What the dearest calls of a run make stays in the room that they have: objects, fields and elements. */
    private static void room() {
        com.sun.management.ThreadMXBean threads =
                (com.sun.management.ThreadMXBean) java.lang.management.ManagementFactory.getThreadMXBean();
        long me = Thread.currentThread().getId();
        long least = Long.MAX_VALUE;
        for (int round = 0; round < 3; round++) {
            long before = threads.getThreadAllocatedBytes(me);
            dearRun();
            least = Math.min(least, threads.getThreadAllocatedBytes(me) - before);
        }
        long room = 600_000L * 16 + 7_300_000L * 4;
        Checks.due("bytes of a dear run, " + least + ", above " + room, least <= room ? 0 : 1, 0);
    }

    private static void dearRun() {
        BothBeside x = eight("w<l+r+k+n+s");
        x.row(0, 0, 8);
        for (int i = 0; i < 29; i++) {
            x.rows(255, -1);
            x.aside(255);
            x.makeUp(0);
            x.soldOn(0);
            x.book(0, -1);
            x.fewest(0);
            x.mixed(i, 50, -1);
            x.body(i % 8);
            x.act(i % 50, i % 4, i);
            x.keep(1, 0);
            x.row(2, 3, 60);
            x.image();
            x.feed('w');
            x.law();
            x.mend(0, 0, 1 + i % 90);
            x.undo();
        }
    }
}
