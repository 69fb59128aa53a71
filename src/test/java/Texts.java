import java.util.Random;

/** Texts of laws, made by the grammar, at random. */
final class Texts {
    private Texts() {
    }

    /** Laws by which many a row is lawful. */
    static String easy(Random r) {
        String[] texts = {"w<l+r+2", "1", "w>k", "!(w=l)", "k=0?1;w<l+r+1", "n>3?w<l+r+3;1", "s=k|w<2*l+r",
            "l=0|w>l-9", "r=0?1;r>w-4", "k%2=s%2|n<4", "-w<l-r|s=8", "w<50&(l|r)", "s=8?w>7;1", "w/2<l+r", "s-k"};
        return texts[r.nextInt(texts.length)];
    }

    static String lines(Random r) {
        StringBuilder b = new StringBuilder();
        do {
            if (b.length() > 0) b.append(';');
            b.append(either(r, 0));
            if (r.nextInt(2) == 0) b.append('?').append(either(r, 0));
        } while (r.nextInt(2) == 0);
        return b.toString();
    }

    static String either(Random r, int open) {
        return chain(r, 0, open);
    }

    private static String chain(Random r, int level, int open) {
        if (level == 5) return single(r, open);
        String[] signs = {"|", "&", "<=>", "+-", "*/%"};
        StringBuilder b = new StringBuilder(chain(r, level + 1, open));
        int more = r.nextInt(6) < 4 ? 0 : 1 + r.nextInt(2);
        if (level == 2) more = Math.min(more, 1);
        for (int i = 0; i < more; i++) {
            b.append(signs[level].charAt(r.nextInt(signs[level].length()))).append(chain(r, level + 1, open));
        }
        return b.toString();
    }

    private static String single(Random r, int open) {
        int what = r.nextInt(10);
        if (open < 6 && what == 0) return "!" + single(r, open + 1);
        if (open < 6 && what == 1) return "-" + single(r, open + 1);
        if (open < 6 && what <= 3) return "(" + either(r, open + 1) + ")";
        if (what <= 5) return String.valueOf(r.nextInt(r.nextInt(2) == 0 ? 10 : 10000));
        return String.valueOf("wlrkns".charAt(r.nextInt(6)));
    }

    /** One byte changed, left out, put in, or the end cut off. */
    static String spoilt(Random r, String t) {
        StringBuilder b = new StringBuilder(t);
        String bytes = "wlrkns0123456789()!-+*/%<=>&|?; x\u0000\u00e9";
        char c = bytes.charAt(r.nextInt(bytes.length()));
        int p = r.nextInt(t.length());
        switch (r.nextInt(4)) {
            case 0: b.setCharAt(p, c); break;
            case 1: b.deleteCharAt(p); break;
            case 2: b.insert(p, c); break;
            default: b.setLength(p);
        }
        return b.toString();
    }
}
