import java.util.ArrayDeque;
import java.util.ArrayList;
import java.util.Arrays;
import java.util.Collections;
import java.util.HashMap;
import java.util.HashSet;
import java.util.List;
import java.util.Map;
import java.util.Set;

/** The document once more, as slowly and plainly as can be: every order is tried, every text read anew. */
final class Model {
    static final int BAD = -1, NOT = -2, FULL = -3, STATE = -5, VOID = -2000000000;

    // ---- the law: fault by an automaton, value by splitting the text

    static final class Text {
        private Text() {
        }

        /** -1 when it is a TEXT. */
        static int fault(String t) {
            boolean operand = true;      // an O must come
            int digits = 0;              // of the number just read
            int pending = 0;             // ! and - ahead of the O that must come
            boolean asked = false;       // ? in this line
            boolean compared = false;    // in the S of this bracket or line
            List<Integer> held = new ArrayList<>();     // per ( : the pending ahead of it
            List<Boolean> heldCompared = new ArrayList<>();
            for (int i = 0; i < t.length(); i++) {
                char c = t.charAt(i);
                int open = pending + held.size();
                for (int h : held) open += h;
                if (operand) {
                    if (c == '!' || c == '-' || c == '(') {
                        if (open == 6) return i;
                        if (c == '(') {
                            held.add(pending);
                            heldCompared.add(compared);
                            pending = 0;
                            compared = false;
                        } else {
                            pending++;
                        }
                    } else if (c >= '0' && c <= '9' || "wlrkns".indexOf(c) >= 0) {
                        operand = false;
                        pending = 0;
                        digits = Character.isDigit(c) && c < 128 ? 1 : 0;
                    } else {
                        return i;
                    }
                    continue;
                }
                if (c >= '0' && c <= '9' && digits > 0 && digits < 4) {
                    digits++;
                    continue;
                }
                digits = 0;
                if (c == ')') {
                    if (held.isEmpty()) return i;
                    held.remove(held.size() - 1);
                    compared = heldCompared.remove(heldCompared.size() - 1);
                    continue;
                }
                if ("*/%+-".indexOf(c) >= 0) {
                    operand = true;
                } else if ("<=>".indexOf(c) >= 0) {
                    if (compared) return i;
                    compared = true;
                    operand = true;
                } else if (c == '&' || c == '|') {
                    compared = false;
                    operand = true;
                } else if (c == '?' && held.isEmpty() && !asked) {
                    asked = true;
                    compared = false;
                    operand = true;
                } else if (c == ';' && held.isEmpty()) {
                    asked = false;
                    compared = false;
                    operand = true;
                } else {
                    return i;
                }
            }
            return operand || !held.isEmpty() ? t.length() : -1;
        }

        static int value(String t, Map<Character, Integer> names) {
            for (String line : t.split(";")) {
                int ask = line.indexOf('?');
                if (ask < 0) return worth(line, names);
                if (worth(line.substring(0, ask), names) != 0) return worth(line.substring(ask + 1), names);
            }
            return 0;
        }

        /** Splits at the sign that binds least and stands last, outside of brackets. */
        static int worth(String e, Map<Character, Integer> names) {
            String[] levels = {"|", "&", "<=>", "+-", "*/%"};
            for (String signs : levels) {
                int depth = 0;
                for (int i = e.length() - 1; i > 0; i--) {
                    char c = e.charAt(i);
                    if (c == ')') depth++;
                    if (c == '(') depth--;
                    boolean between = "wlrkns0123456789)".indexOf(e.charAt(i - 1)) >= 0;
                    if (depth == 0 && between && signs.indexOf(c) >= 0) {
                        return joined(c, worth(e.substring(0, i), names), worth(e.substring(i + 1), names));
                    }
                }
            }
            char c = e.charAt(0);
            if (c == '!') return worth(e.substring(1), names) == 0 ? 1 : 0;
            if (c == '-') return -worth(e.substring(1), names);
            if (c == '(') return worth(e.substring(1, e.length() - 1), names);
            return names.containsKey(c) ? names.get(c) : Integer.parseInt(e);
        }

        static int joined(char sign, int a, int b) {
            long x = a;
            long y = b;
            switch (sign) {
                case '|': return a == 0 && b == 0 ? 0 : 1;
                case '&': return a == 0 || b == 0 ? 0 : 1;
                case '<': return x < y ? 1 : 0;
                case '=': return x == y ? 1 : 0;
                case '>': return x > y ? 1 : 0;
                case '+': return (int) (x + y);
                case '-': return (int) (x - y);
                case '*': return (int) (x * y);
                case '/': return y == 0 ? 0 : (int) (x / y);
                default: return y == 0 ? 0 : (int) (x % y);
            }
        }
    }

    // ---- what stands

    private final List<Integer> weights = new ArrayList<>();
    private List<Integer> row = new ArrayList<>();
    private int ring = 0;
    private String tape = "";
    private String law = null;
    private int deeds = 0;
    private int wrongs = 0;
    private List<Integer> imageRow = null;
    private int imageDeeds;
    private int imageWrongs;
    private int newWeight = 0;
    private final List<int[]> done = new ArrayList<>();
    private final List<int[]> undone = new ArrayList<>();
    private final Map<List<Integer>, Boolean> judged = new HashMap<>();

    private int weight(int s) {
        return s == 8 ? newWeight : weights.get(s);
    }

    private boolean lawfulAt(List<Integer> r, int k) {
        int n = r.size();
        int l = k > 0 ? weight(r.get(k - 1)) : ring == 1 ? weight(r.get(n - 1)) : 0;
        int o = k < n - 1 ? weight(r.get(k + 1)) : ring == 1 ? weight(r.get(0)) : 0;
        int w = weight(r.get(k));
        if (law == null) return w <= l + o;
        List<Integer> key = List.of(w, l, o, k, n, r.get(k));
        Boolean known = judged.get(key);
        if (known != null) return known;
        Map<Character, Integer> names = new HashMap<>();
        names.put('w', w);
        names.put('l', l);
        names.put('r', o);
        names.put('k', k);
        names.put('n', n);
        names.put('s', r.get(k));
        boolean is = Text.value(law, names) != 0;
        judged.put(key, is);
        return is;
    }

    private boolean lawful(List<Integer> r) {
        for (int k = 0; k < r.size(); k++) if (!lawfulAt(r, k)) return false;
        return true;
    }

    private boolean isStone(int s) {
        return s >= 0 && s < weights.size();
    }

    private boolean isSet(int set) {
        return set >= 0 && set < 256 && set >> weights.size() == 0;
    }

    private static List<Integer> members(int set) {
        List<Integer> m = new ArrayList<>();
        for (int s = 0; s < 8; s++) if ((set >> s & 1) == 1) m.add(s);
        return m;
    }

    /** All orders, the least one first. */
    private static void orders(List<Integer> built, List<Integer> left, List<List<Integer>> all) {
        if (left.isEmpty()) all.add(new ArrayList<>(built));
        for (Integer s : left) {
            List<Integer> rest = new ArrayList<>(left);
            rest.remove(s);
            built.add(s);
            orders(built, rest, all);
            built.remove(built.size() - 1);
        }
    }

    private List<List<Integer>> lawfulOrders(int set) {
        List<List<Integer>> all = new ArrayList<>();
        orders(new ArrayList<>(), members(set), all);
        all.removeIf(o -> !lawful(o));
        return all;
    }

    int stone(int weight) {
        if (weight < 1 || weight > 99) return BAD;
        if (weights.size() == 8) return FULL;
        weights.add(weight);
        return weights.size() - 1;
    }

    int stones(int shelf, int i, int n) {
        if (!isShelf(shelf) || n < 1 || n > 8) return BAD;
        Object o = shelves[shelf];
        if (o != null && !(o instanceof byte[])) return -12;
        if (o == null || i < 0) return 0;
        byte[] b = (byte[]) o;
        int came = 0;
        for (long p = i; p < (long) i + n && p < b.length; p++) {
            if (stone(b[(int) p]) < 0) break;
            came++;
        }
        return came;
    }

    int mend(int number, int what, int v) {
        if (what == 0 && isStone(number) && v >= 1 && v <= 99) return changed(number, weights.get(number), v);
        if (what == 1 && number == 0 && (v == 0 || v == 1)) return changed(-1, ring, v);
        return BAD;
    }

    private int changed(int which, int was, int v) {
        if (was == v) return v;
        done.add(new int[] {which, was, v});
        if (done.size() > 40) done.remove(0);
        undone.clear();
        become(which, v);
        return was;
    }

    private void become(int which, int v) {
        if (which == -1) ring = v;
        else weights.set(which, v);
    }

    int undo() {
        if (done.isEmpty()) return STATE;
        int[] c = done.remove(done.size() - 1);
        undone.add(c);
        become(c[0], c[1]);
        return done.size();
    }

    int redo() {
        if (undone.isEmpty()) return STATE;
        int[] c = undone.remove(undone.size() - 1);
        done.add(c);
        become(c[0], c[2]);
        return undone.size();
    }

    int of(int number, int what) {
        if (what >= 0 && what <= 2) {
            if (!isStone(number)) return BAD;
            if (what == 0) return weights.get(number);
            int place = row.indexOf(number);
            if (place < 0) return NOT;
            return what == 1 ? place : lawfulAt(row, place) ? 1 : 0;
        }
        if (what == 10) return number >= 0 && number < row.size() ? row.get(number) : BAD;
        if (number != 0) return BAD;
        if (what == 20) return ring;
        if (what == 21) return lawful(row) ? 1 : 0;
        if (what == 22) return deeds;
        return what == 23 ? wrongs : BAD;
    }

    int feed(int letter) {
        if (letter < 0 || letter > 255) return BAD;
        if (tape.length() == 120) return FULL;
        tape += (char) letter;
        return tape.length();
    }

    int law() {
        int fault = Text.fault(tape);
        String t = tape;
        tape = "";
        if (fault >= 0) return -100 - fault;
        law = t;
        judged.clear();
        return 1;
    }

    private void led() {
        deeds++;
        if (!lawful(row)) wrongs++;
    }

    int set(int stone, int place) {
        if (!isStone(stone) || place < 0 || place > row.size()) return BAD;
        if (row.contains(stone)) return STATE;
        row.add(place, stone);
        led();
        return row.size();
    }

    int take(int place) {
        if (place < 0 || place >= row.size()) return BAD;
        int s = row.remove(place);
        led();
        return s;
    }

    int turn(int ij) {
        if (ij < 0 || ij / 10 >= ij % 10 || ij % 10 >= row.size()) return BAD;
        Collections.reverse(row.subList(ij / 10, ij % 10 + 1));
        led();
        return ij % 10 - ij / 10 + 1;
    }

    int broken() {
        for (int k = 0; k < row.size(); k++) if (!lawfulAt(row, k)) return k;
        return NOT;
    }

    int maySell() {
        int bits = 0;
        for (Integer s : row) {
            List<Integer> rest = new ArrayList<>(row);
            rest.remove(s);
            if (lawful(rest)) bits |= 1 << s;
        }
        return bits;
    }

    int ways(int what) {
        if (what != 0 && what != 1) return BAD;
        int ways = 0;
        for (int j = 0; j < row.size(); j++) {
            for (int i = 0; i < j; i++) {
                List<Integer> r = new ArrayList<>(row);
                if (what == 0) Collections.swap(r, i, j);
                else Collections.reverse(r.subList(i, j + 1));
                if (lawful(r)) ways++;
            }
        }
        return ways;
    }

    int rows(int set, int k) {
        if (!isSet(set) || k < -1 || k >= members(set).size()) return BAD;
        List<List<Integer>> all = lawfulOrders(set);
        if (k == -1) return all.size();
        return all.isEmpty() ? NOT : all.get(0).get(k);
    }

    /** Tries, by places, the heaviest weight each may keep, one ounce at a time. */
    int ounces(int place) {
        if (place < -1 || place >= row.size()) return BAD;
        int n = row.size();
        int[] w = new int[n];
        for (int p = 0; p < n; p++) w[p] = weights.get(row.get(p));
        int off = 0;
        for (int p = 0; p < n; p++) {
            int l = p > 0 ? w[p - 1] : ring == 1 ? w[n - 1] : 0;
            int r = p < n - 1 ? w[p + 1] : ring == 1 ? w[0] : 0;
            if (w[p] > l + r) {
                w[p]--;
                off++;
                if (w[p] == 0) return NOT;
                p = -1;
            }
        }
        return place == -1 ? off : w[place];
    }

    int makeUp(int what) {
        if (what != 0 && what != 1) return BAD;
        for (newWeight = 1; newWeight <= 99; newWeight++) {
            for (int p = 0; p <= row.size(); p++) {
                List<Integer> r = new ArrayList<>(row);
                r.add(p, 8);
                if (lawful(r)) return what == 0 ? newWeight : p;
            }
        }
        return NOT;
    }

    private int endsOf(int set) {
        List<Integer> m = members(set);
        for (int way = 0; way < 1 << m.size(); way += 2) {
            ArrayDeque<Integer> ends = new ArrayDeque<>();
            for (int i = 0; i < m.size(); i++) {
                if ((way >> i & 1) == 1) ends.addLast(m.get(i));
                else ends.addFirst(m.get(i));
            }
            if (lawful(new ArrayList<>(ends))) return way;
        }
        return NOT;
    }

    int ends(int set) {
        return isSet(set) && set != 0 ? endsOf(set) : BAD;
    }

    int aside(int set) {
        if (!isSet(set) || set == 0) return BAD;
        int best = set;
        for (int a = set; a >= 0; a--) {
            if ((a | set) != set || endsOf(set - a) == NOT) continue;
            if (Integer.bitCount(a) <= Integer.bitCount(best)) best = a;
        }
        return best;
    }

    private final Map<List<Integer>, List<Integer>> bestSales = new HashMap<>();

    /** Sales by numbers; a longer row of sales is better, the first of like ones. */
    private List<Integer> sales(List<Integer> r) {
        List<Integer> known = bestSales.get(r);
        if (known != null) return known;
        List<Integer> best = new ArrayList<>();
        List<Integer> byNumber = new ArrayList<>(r);
        Collections.sort(byNumber);
        for (Integer s : byNumber) {
            List<Integer> rest = new ArrayList<>(r);
            rest.remove(s);
            if (!lawful(rest)) continue;
            List<Integer> sold = new ArrayList<>();
            sold.add(s);
            sold.addAll(sales(rest));
            if (sold.size() > best.size()) best = sold;
        }
        bestSales.put(r, best);
        return best;
    }

    int soldOn(int k) {
        if (k < -1) return BAD;
        bestSales.clear();
        List<Integer> best = sales(row);
        if (k == -1) return best.size();
        return k < best.size() ? best.get(k) : NOT;
    }

    int worth(int set, int stone) {
        if (!isSet(set) || !isStone(stone) || !members(set).contains(stone)) return VOID;
        return lawfulOrders(set).size() - lawfulOrders(set - (1 << stone)).size();
    }

    private int refusesBytes(int shelf) {
        if (!isShelf(shelf)) return BAD;
        if (shelves[shelf] == null) return -11;
        return shelves[shelf] instanceof byte[] ? 0 : -12;
    }

    int fewest(int shelf) {
        if (refusesBytes(shelf) != 0) return refusesBytes(shelf);
        List<Integer> told = new ArrayList<>();
        for (byte b : (byte[]) shelves[shelf]) told.add((int) b);
        List<Integer> a = new ArrayList<>(told);
        List<Integer> b = new ArrayList<>(row);
        Collections.sort(a);
        Collections.sort(b);
        if (row.size() > 6 || !a.equals(b)) return STATE;
        Set<List<Integer>> seen = new HashSet<>();
        List<List<Integer>> now = new ArrayList<>();
        now.add(row);
        seen.add(row);
        for (int turns = 0; !now.isEmpty(); turns++) {
            if (now.contains(told)) return turns;
            List<List<Integer>> then = new ArrayList<>();
            for (List<Integer> r : now) {
                for (int j = 0; j < r.size(); j++) {
                    for (int i = 0; i < j; i++) {
                        List<Integer> t = new ArrayList<>(r);
                        Collections.reverse(t.subList(i, j + 1));
                        if (lawful(t) && seen.add(t)) then.add(t);
                    }
                }
            }
            now = then;
        }
        return NOT;
    }

    int book(int shelf, int place) {
        if (place < -1 || place >= row.size()) return BAD;
        if (refusesBytes(shelf) != 0) return refusesBytes(shelf);
        byte[] told = (byte[]) shelves[shelf];
        int set = 0;
        for (int s : row) set |= 1 << s;
        List<List<Integer>> all = lawfulOrders(set);
        all.removeIf(o -> {
            for (int p = 0; p < o.size() && p < told.length; p++) {
                if (told[p] != -1 && told[p] != o.get(p)) return true;
            }
            return false;
        });
        if (place == -1) return all.size();
        return all.isEmpty() ? NOT : all.get(0).get(place);
    }

    int mixed(int seed, int n, int stone) {
        if (n < 1 || n > 50 || stone < -1 || stone >= 0 && !row.contains(stone)) return BAD;
        int z = seed;
        int often = 0;
        for (int t = 0; t < n; t++) {
            List<Integer> r = new ArrayList<>(row);
            for (int i = r.size() - 1; i > 0; i--) {
                z = (int) ((long) z * 1103515245L + 12345L);
                Collections.swap(r, i, (z >>> 8) % (i + 1));
            }
            if (stone == -1 ? lawful(r) : lawfulAt(r, r.indexOf(stone))) often++;
        }
        return often;
    }

    int image() {
        imageRow = new ArrayList<>(row);
        imageDeeds = deeds;
        imageWrongs = wrongs;
        return row.size();
    }

    int back() {
        if (imageRow == null) return STATE;
        row = new ArrayList<>(imageRow);
        deeds = imageDeeds;
        wrongs = imageWrongs;
        return row.size();
    }

    // ---- acts: the kinds as classes of Java

    private final List<Stone> bodies = new ArrayList<>();
    private final List<Integer> trace = new ArrayList<>();

    interface Stands {
        int n();

        List<Integer> trace();

        default int stands(int x) {
            trace().add(1);
            return x + n();
        }
    }

    interface Sells {
        List<Integer> trace();

        int holds(int x);

        int sets(int x);

        default int sells(int x) {
            trace().add(2);
            return holds(x) - sets(1);
        }
    }

    static class Stone implements Stands, Sells {
        final int n;
        final List<Integer> trace;

        Stone(int n, List<Integer> trace) {
            this.n = n;
            this.trace = trace;
        }

        public int n() {
            return n;
        }

        public List<Integer> trace() {
            return trace;
        }

        public int holds(int x) {
            trace.add(10);
            return stands(x) * 2;
        }

        public int sets(int x) {
            trace.add(11);
            return x ^ n;
        }
    }

    static class Light extends Stone {
        Light(int n, List<Integer> trace) {
            super(n, trace);
        }

        public int stands(int x) {
            trace.add(20);
            return super.stands(x) + 3;
        }
    }

    static class Held extends Stone {
        Held(int n, List<Integer> trace) {
            super(n, trace);
        }

        public int holds(int x) {
            trace.add(30);
            return -super.holds(x);
        }
    }

    static class Holding extends Held {
        Holding(int n, List<Integer> trace) {
            super(n, trace);
        }

        public int sets(int x) {
            trace.add(40);
            return super.sets(x) * 3;
        }

        public int holds(int x) {
            trace.add(41);
            return super.holds(x + 1);
        }
    }

    static final class Ends extends Light {
        Ends(int n, List<Integer> trace) {
            super(n, trace);
        }

        public int sells(int x) {
            trace.add(50);
            return super.sells(x) ^ 5;
        }
    }

    static final class Heavy extends Holding {
        Heavy(int n, List<Integer> trace) {
            super(n, trace);
        }

        public int sets(int x) {
            trace.add(60);
            return super.sets(x) - stands(2);
        }

        public int sells(int x) {
            trace.add(61);
            return super.sells(x) + 1;
        }
    }

    static class Chipped extends Stone {
        Chipped(int n, List<Integer> trace) {
            super(n, trace);
        }

        public int stands(int x) {
            trace.add(70);
            return super.stands(x) * 2;
        }
    }

    static final class Sold extends Chipped {
        Sold(int n, List<Integer> trace) {
            super(n, trace);
        }

        public int holds(int x) {
            trace.add(80);
            return super.holds(x) + sets(2);
        }

        public int stands(int x) {
            trace.add(81);
            return super.stands(x) - 1;
        }
    }

    private static final List<Class<? extends Stone>> KINDS = List.of(Stone.class, Light.class, Held.class,
            Holding.class, Ends.class, Heavy.class, Chipped.class, Sold.class);

    int body(int kind) {
        if (kind < 0 || kind > 7) return BAD;
        int n = bodies.size();
        if (n == 50) return FULL;
        switch (kind) {
            case 0: bodies.add(new Stone(n, trace)); break;
            case 1: bodies.add(new Light(n, trace)); break;
            case 2: bodies.add(new Held(n, trace)); break;
            case 3: bodies.add(new Holding(n, trace)); break;
            case 4: bodies.add(new Ends(n, trace)); break;
            case 5: bodies.add(new Heavy(n, trace)); break;
            case 6: bodies.add(new Chipped(n, trace)); break;
            default: bodies.add(new Sold(n, trace));
        }
        return n;
    }

    int act(int body, int act, int x) {
        trace.clear();
        if (body < 0 || body >= bodies.size()) return 0;
        Stone b = bodies.get(body);
        switch (act) {
            case 0: return b.stands(x);
            case 1: return b.holds(x);
            case 2: return b.sets(x);
            case 3: return b.sells(x);
            default: return 0;
        }
    }

    int trace(int i) {
        return i >= 0 && i < Math.min(24, trace.size()) ? trace.get(i) : BAD;
    }

    // ---- shelves: the rows as arrays of Java

    private final Object[] shelves = new Object[6];

    private static boolean isShelf(int shelf) {
        return shelf >= 0 && shelf < 6;
    }

    int keep(int shelf, int body) {
        if (!isShelf(shelf) || body < -1 || body >= bodies.size()) return BAD;
        shelves[shelf] = body == -1 ? null : bodies.get(body);
        return 1;
    }

    int row(int shelf, int sort, int n) {
        if (!isShelf(shelf) || sort < 0 || sort > 4 || n > 60) return BAD;
        if (n < 0) return -14;
        switch (sort) {
            case 0: shelves[shelf] = new byte[n]; break;
            case 1: shelves[shelf] = new short[n]; break;
            case 2: shelves[shelf] = new int[n]; break;
            case 3: shelves[shelf] = new long[n]; break;
            default: shelves[shelf] = new boolean[n];
        }
        return 1;
    }

    private int refusesElement(int shelf, int i) {
        if (!isShelf(shelf)) return BAD;
        if (shelves[shelf] == null) return -11;
        if (shelves[shelf] instanceof Stone) return -12;
        return i < 0 || i >= java.lang.reflect.Array.getLength(shelves[shelf]) ? -13 : 0;
    }

    int put(int shelf, int i, long v) {
        int refusal = refusesElement(shelf, i);
        if (refusal != 0) return refusal;
        Object o = shelves[shelf];
        if (o instanceof byte[]) ((byte[]) o)[i] = (byte) v;
        if (o instanceof short[]) ((short[]) o)[i] = (short) v;
        if (o instanceof int[]) ((int[]) o)[i] = (int) v;
        if (o instanceof long[]) ((long[]) o)[i] = v;
        if (o instanceof boolean[]) ((boolean[]) o)[i] = v != 0;
        return 1;
    }

    long element(int shelf, int i) {
        if (refusesElement(shelf, i) != 0) return Long.MIN_VALUE;
        Object v = java.lang.reflect.Array.get(shelves[shelf], i);
        if (v instanceof Boolean) return (Boolean) v ? 1 : 0;
        return ((Number) v).longValue();
    }

    int shift(int shelf, int i, int other, int j, int n) {
        if (!isShelf(shelf) || !isShelf(other)) return BAD;
        if (shelves[shelf] == null || shelves[other] == null) return -11;
        if (shelves[shelf] instanceof Stone || shelves[shelf].getClass() != shelves[other].getClass()) return -12;
        try {
            System.arraycopy(shelves[shelf], i, shelves[other], j, n);
        } catch (IndexOutOfBoundsException e) {
            return -13;
        }
        return n;
    }

    int taken(int shelf, int k) {
        if (!isShelf(shelf) || k < 0 || k > 7) return BAD;
        if (shelves[shelf] == null) return -11;
        return KINDS.get(k).isInstance(shelves[shelf]) ? KINDS.indexOf(shelves[shelf].getClass()) : -12;
    }

    int count(int what) {
        int[] counts = {weights.size(), row.size(), tape.length(), done.size(), bodies.size(), trace.size()};
        return what >= 0 && what < counts.length ? counts[what] : BAD;
    }

    @Override
    public String toString() {
        return "weights " + weights + " row " + row + " ring " + ring + " law " + law + " shelves "
                + Arrays.deepToString(shelves);
    }
}
