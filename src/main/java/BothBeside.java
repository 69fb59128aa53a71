/** Stones on a quay, each lawful by what stands beside it. What each call does is told in ../shared/DOC.md. */
public final class BothBeside {
    public static final int BAD = -1, NOT = -2, FULL = -3, STATE = -5, VOID = -2000000000;

    private static final int NOTHING_THERE = -11, OTHER_KIND = -12, NO_PLACE = -13, BELOW_ZERO = -14;
    private static final int MOST_STONES = 8, HEAVIEST = 99, MOST_MIXINGS = 50;
    private static final int NONE = -1;
    /** Long.MIN_VALUE, written out: LANGUAGE.md lists functions of Long, no constants. */
    private static final long NO_ELEMENT = -9223372036854775808L;
    /** The number of the stone by which a row is made up. */
    private static final int MADE_UP = 8;

    private final Law text = new Law();
    private final Quay quay = new Quay(text);
    private final Changes changes = new Changes(quay);
    private final Tries tries = new Tries(quay);
    private final Orders orders = new Orders(quay);
    private final Ship ship = new Ship(quay);
    private final Sales sales = new Sales(quay);
    private final Turns turns = new Turns(quay);
    private final Acts acts = new Acts();
    private final Shelves shelves = new Shelves();

    public BothBeside() {
    }

    // ---- stones, the row

    public int stone(int weight) {
        return quay.bring(weight);
    }

    public int stones(int shelf, int i, int n) {
        if (!shelves.has(shelf) || n < 1 || n > MOST_STONES) return BAD;
        if (shelves.refusesBytes(shelf) == OTHER_KIND) return OTHER_KIND;
        if (i < 0) return 0;
        int came = 0;
        while (came < n && i < shelves.length(shelf) - came) {
            if (quay.bring((int) shelves.valueAt(shelf, i + came)) < 0) return came;
            came++;
        }
        return came;
    }

    public int mend(int number, int what, int v) {
        if (what == 0) {
            if (!quay.has(number) || !isWeight(v)) return BAD;
            return changes.change(number, v);
        }
        if (what != 1 || number != 0 || v < 0 || v > 1) return BAD;
        return changes.change(Changes.RING, v);
    }

    public int of(int number, int what) {
        switch (what) {
            case 0: return quay.has(number) ? quay.weightOf(number) : BAD;
            case 1: return quay.has(number) ? quay.placeOf(number) : BAD;
            case 2: return quay.has(number) ? quay.isStoneLawful(number) : BAD;
            case 10: return quay.isPlace(number) ? at(quay.places, number) : BAD;
            default: return number == 0 ? ofAll(what) : BAD;
        }
    }

    private int ofAll(int what) {
        switch (what) {
            case 20: return quay.ring;
            case 21: return quay.isLawful(quay.places, quay.standing) ? 1 : 0;
            case 22: return quay.deeds;
            case 23: return quay.wrongs;
            default: return BAD;
        }
    }

    public int feed(int letter) {
        return text.hear(letter);
    }

    public int law() {
        int fault = text.read();
        if (fault != NONE) return -100 - fault;
        quay.judgeAnew();
        return 1;
    }

    // ---- in deed

    public int set(int stone, int place) {
        if (!quay.has(stone) || place < 0 || place > quay.standing) return BAD;
        if (quay.placeOf(stone) != NOT) return STATE;
        insert(quay.places, quay.standing, place, stone);
        quay.standing++;
        quay.lead();
        return quay.standing;
    }

    public int take(int place) {
        if (!quay.isPlace(place)) return BAD;
        int stone = at(quay.places, place);
        remove(quay.places, quay.standing, place);
        quay.standing--;
        quay.lead();
        return stone;
    }

    public int turn(int ij) {
        if (ij < 0) return BAD;
        int i = ij / 10;
        int j = ij % 10;
        if (i >= j || !quay.isPlace(j)) return BAD;
        reverse(quay.places, i, j);
        quay.lead();
        return j - i + 1;
    }

    // ---- what may be

    public int broken() {
        return quay.firstUnlawful(quay.places, quay.standing);
    }

    public int maySell() {
        return tries.mayBeSold();
    }

    public int ways(int what) {
        return what == 0 || what == 1 ? tries.lawfulWays(what == 1) : BAD;
    }

    public int rows(int set, int k) {
        if (!quay.isSet(set) || k < -1 || k >= Integer.bitCount(set)) return BAD;
        orders.fitAll();
        return orders.answer(set, k);
    }

    public int ounces(int place) {
        if (place < -1 || place >= quay.standing) return BAD;
        if (!tries.knockOff()) return NOT;
        return place == -1 ? tries.knockedOff() : at(tries.lighter, place);
    }

    public int makeUp(int what) {
        if (what != 0 && what != 1) return BAD;
        if (!tries.findMakingUp()) return NOT;
        return what == 0 ? quay.weightOf(MADE_UP) : tries.madeUpAt;
    }

    public int ends(int set) {
        return quay.isSet(set) && set != 0 ? ship.firstWay(set) : BAD;
    }

    public int aside(int set) {
        return quay.isSet(set) && set != 0 ? ship.fewestAside(set) : BAD;
    }

    public int soldOn(int k) {
        if (k < -1) return BAD;
        int most = sales.most();
        if (k == -1) return most;
        return k < most ? sales.sale(k) : NOT;
    }

    public int worth(int set, int stone) {
        if (!quay.isSet(set) || !quay.has(stone) || (set >> stone & 1) == 0) return VOID;
        orders.fitAll();
        int with = orders.answer(set, -1);
        return with - orders.answer(set & ~(1 << stone), -1);
    }

    public int fewest(int shelf) {
        int refusal = shelves.refusesBytes(shelf);
        if (refusal != 0) return refusal;
        return turns.isTold(shelves, shelf) ? turns.fewestTurns() : STATE;
    }

    public int book(int shelf, int place) {
        if (place < -1 || place >= quay.standing) return BAD;
        int refusal = shelves.refusesBytes(shelf);
        if (refusal != 0) return refusal;
        orders.fitBook(shelves, shelf);
        return orders.answer(quay.setOfRow(), place);
    }

    public int mixed(int seed, int n, int stone) {
        if (n < 1 || n > MOST_MIXINGS) return BAD;
        if (stone != -1 && (!quay.has(stone) || quay.placeOf(stone) == NOT)) return BAD;
        return tries.lawfulMixings(seed, n, stone);
    }

    public int image() {
        return quay.keepImage();
    }

    public int back() {
        return quay.layBack();
    }

    public int undo() {
        return changes.undoLatest();
    }

    public int redo() {
        return changes.redoNext();
    }

    // ---- acts, shelves

    public int body(int kind) {
        return acts.add(kind);
    }

    public int act(int body, int act, int x) {
        return acts.start(body, act, x);
    }

    public int trace(int i) {
        return acts.traced(i);
    }

    public int keep(int shelf, int body) {
        if (!shelves.has(shelf) || body != -1 && !acts.has(body)) return BAD;
        shelves.hold(shelf, body == -1 ? Shelves.NOTHING : Shelves.BODY, body);
        return 1;
    }

    public int row(int shelf, int sort, int n) {
        if (!shelves.has(shelf) || sort < 0 || sort >= Shelves.SORTS || n > Shelves.LONGEST) return BAD;
        if (n < 0) return BELOW_ZERO;
        shelves.hold(shelf, sort, n);
        return 1;
    }

    public int put(int shelf, int i, long v) {
        int refusal = shelves.refusesElement(shelf, i);
        if (refusal != 0) return refusal;
        shelves.enter(shelf, i, v);
        return 1;
    }

    public long element(int shelf, int i) {
        return shelves.refusesElement(shelf, i) == 0 ? shelves.valueAt(shelf, i) : NO_ELEMENT;
    }

    public int shift(int shelf, int i, int other, int j, int n) {
        int refusal = shelves.refusesPair(shelf, other);
        if (refusal != 0) return refusal;
        return shelves.move(shelf, i, other, j, n) ? n : NO_PLACE;
    }

    public int taken(int shelf, int k) {
        if (!shelves.has(shelf) || k < 0 || k >= Acts.KINDS) return BAD;
        if (shelves.isEmpty(shelf)) return NOTHING_THERE;
        int kind = shelves.holdsBody(shelf) ? acts.kindOf(shelves.bodyOn(shelf)) : NONE;
        return acts.isUnder(kind, k) ? kind : OTHER_KIND;
    }

    public int count(int what) {
        switch (what) {
            case 0: return quay.stones;
            case 1: return quay.standing;
            case 2: return text.length;
            case 3: return changes.done;
            case 4: return acts.bodies;
            case 5: return acts.ran;
            default: return BAD;
        }
    }

    // ---- arrays, with every index looked at

    private static int at(int[] a, int i) {
        return i >= 0 && i < a.length ? a[i] : 0;
    }

    private static void lay(int[] a, int i, int v) {
        if (i >= 0 && i < a.length) a[i] = v;
    }

    private static void copy(int[] from, int[] to, int n) {
        for (int i = 0; i < n; i++) lay(to, i, at(from, i));
    }

    private static void insert(int[] row, int n, int place, int stone) {
        for (int p = n; p > place; p--) lay(row, p, at(row, p - 1));
        lay(row, place, stone);
    }

    private static void remove(int[] row, int n, int place) {
        for (int p = place; p < n - 1; p++) lay(row, p, at(row, p + 1));
    }

    private static void exchange(int[] row, int i, int j) {
        int kept = at(row, i);
        lay(row, i, at(row, j));
        lay(row, j, kept);
    }

    private static void reverse(int[] row, int i, int j) {
        for (int step = 0; i + step < j - step; step++) exchange(row, i + step, j - step);
    }

    private static boolean isWeight(int v) {
        return v >= 1 && v <= HEAVIEST;
    }

    /** THE TAPE, and the law that was read from it last. */
    private static final class Law {
        private static final int LONGEST = 120, DEEPEST = 6, MOST_DIGITS = 4;
        private static final int COMPARING = 2, SINGLE = 5;
        private static final String NAMES = "wlrkns";
        /** The minus ahead of an O, told from the one between two P. */
        private static final int NEGATE = '~';

        private final int[] tape = new int[LONGEST];
        private int length;
        /** The place of the byte that is read next. */
        private int next;
        // Code: a number stands for itself, -1 - i for the i-th name, -c for the sign c, behind what it works on.
        private final int[] draft = new int[LONGEST + 1];
        private int drafted;
        private final int[] code = new int[LONGEST + 1];
        private int size;
        private final int[] stack = new int[LONGEST + 1];

        int hear(int letter) {
            if (letter < 0 || letter > 255) return BAD;
            if (length >= LONGEST) return FULL;
            lay(tape, length, letter);
            length++;
            return length;
        }

        /** NONE, or the fault: reading never goes past a byte that is wrong, so it stands there then. */
        int read() {
            next = 0;
            drafted = 0;
            boolean reads = readLine();
            for (int lines = 1; lines < LONGEST && reads && passed(";") != 0; lines++) reads = readLine();
            boolean fits = reads && next >= length;
            length = 0;
            if (!fits) return next;
            copy(draft, code, drafted);
            size = drafted;
            return NONE;
        }

        private boolean readLine() {
            if (!readLevel(0, 0)) return false;
            if (passed("?") != 0) {
                emit(-'?');
                if (!readLevel(0, 0)) return false;
            }
            emit(-';');
            return true;
        }

        /** E, A, B, S, P, O are the levels 0 to 5; open is how many of ( ! - are open. */
        private boolean readLevel(int level, int open) {
            if (level >= SINGLE) return readSingle(open);
            if (!readLevel(level + 1, open)) return false;
            int most = level == COMPARING ? 1 : LONGEST;
            for (int i = 0; i < most; i++) {
                int sign = passed(signsOf(level));
                if (sign == 0) return true;
                if (!readLevel(level + 1, open)) return false;
                emit(-sign);
            }
            return true;
        }

        private static String signsOf(int level) {
            switch (level) {
                case 0: return "|";
                case 1: return "&";
                case COMPARING: return "<=>";
                case 3: return "+-";
                default: return "*/%";
            }
        }

        private boolean readSingle(int open) {
            if (isDigit(seen())) return readNumber();
            int name = passed(NAMES);
            if (name != 0) {
                emit(-1 - NAMES.indexOf((char) name));
                return true;
            }
            if (open >= DEEPEST) return false;
            if (passed("(") != 0) return readLevel(0, open + 1) && passed(")") != 0;
            int sign = passed("!-");
            if (sign == 0 || !readSingle(open + 1)) return false;
            emit(sign == '!' ? -'!' : -NEGATE);
            return true;
        }

        private boolean readNumber() {
            int value = 0;
            for (int digits = 0; digits < MOST_DIGITS && isDigit(seen()); digits++) {
                value = value * 10 + seen() - '0';
                next++;
            }
            emit(value);
            return true;
        }

        private static boolean isDigit(int c) {
            return c >= '0' && c <= '9';
        }

        /** The byte that is read next, NONE behind the last one. */
        private int seen() {
            return next < length ? at(tape, next) : NONE;
        }

        /** The one of these signs that comes next, which is passed; 0: none of them does. */
        private int passed(String signs) {
            int c = seen();
            if (c <= 0 || signs.indexOf((char) c) < 0) return 0;
            next++;
            return c;
        }

        private void emit(int sign) {
            lay(draft, drafted, sign);
            drafted++;
        }

        /** What the law says of a stone; 0: it is not lawful. */
        int value(int w, int l, int r, int k, int n, int s) {
            if (size == 0) return w <= l + r ? 1 : 0;
            int top = 0;
            boolean counts = true;
            for (int i = 0; i < size; i++) {
                int sign = at(code, i);
                if (sign >= -NAMES.length()) {
                    lay(stack, top, sign >= 0 ? sign : named(-1 - sign, w, l, r, k, n, s));
                    top++;
                } else if (sign == -'!' || sign == -NEGATE) {
                    lay(stack, top - 1, alone(-sign, at(stack, top - 1)));
                } else {
                    top--;
                    int latest = at(stack, top);
                    if (sign == -';' && counts) return latest;
                    if (sign == -';') counts = true;
                    else if (sign == -'?') counts = latest != 0;
                    else lay(stack, top - 1, joined(-sign, at(stack, top - 1), latest));
                }
            }
            return 0;
        }

        private static int named(int name, int w, int l, int r, int k, int n, int s) {
            switch (name) {
                case 0: return w;
                case 1: return l;
                case 2: return r;
                case 3: return k;
                case 4: return n;
                default: return s;
            }
        }

        private static int alone(int sign, int a) {
            if (sign == NEGATE) return -a;
            return a == 0 ? 1 : 0;
        }

        private static int joined(int sign, int a, int b) {
            switch (sign) {
                case '*': return a * b;
                case '/': return b == 0 ? 0 : a / b;
                case '%': return b == 0 ? 0 : a % b;
                case '+': return a + b;
                case '-': return a - b;
                case '<': return a < b ? 1 : 0;
                case '=': return a == b ? 1 : 0;
                case '>': return a > b ? 1 : 0;
                case '&': return a != 0 && b != 0 ? 1 : 0;
                default: return a != 0 || b != 0 ? 1 : 0;
            }
        }
    }

    /** The stones, the row, what is lawful, what was led, the image. */
    private static final class Quay {
        private static final int BESIDES = MOST_STONES + 1;

        private final Law law;
        private final int[] weights = new int[MOST_STONES + 1];
        private int stones;
        private final int[] places = new int[MOST_STONES];
        private int standing;
        private int ring;
        private int deeds;
        private int wrongs;
        private boolean hasImage;
        private final int[] imagePlaces = new int[MOST_STONES];
        private int imageStanding;
        private int imageDeeds;
        private int imageWrongs;
        // A search asks for the same three stones at the same place again and again, and a text is long: what the
        // law says is kept, marked by the stamp; with another stamp it is stale.
        private final int[] verdicts = new int[(MOST_STONES + 1) * BESIDES * MOST_STONES * BESIDES];
        private int stamp = 1;
        private int judgedFor;

        Quay(Law law) {
            this.law = law;
        }

        int bring(int weight) {
            if (!isWeight(weight)) return BAD;
            if (stones >= MOST_STONES) return FULL;
            weigh(stones, weight);
            stones++;
            return stones - 1;
        }

        boolean has(int stone) {
            return stone >= 0 && stone < stones;
        }

        boolean isSet(int set) {
            return set >= 0 && set < 1 << stones;
        }

        boolean isPlace(int place) {
            return place >= 0 && place < standing;
        }

        /** The weight of a stone, 0 of NONE. */
        int weightOf(int stone) {
            return at(weights, stone);
        }

        void weigh(int stone, int weight) {
            lay(weights, stone, weight);
            // of MADE_UP no verdicts are kept
            if (stone != MADE_UP) judgeAnew();
        }

        void judgeAnew() {
            stamp++;
        }

        int placeOf(int stone) {
            return placeIn(places, standing, stone);
        }

        static int placeIn(int[] order, int n, int stone) {
            for (int p = 0; p < n; p++) {
                if (at(order, p) == stone) return p;
            }
            return NOT;
        }

        int setOfRow() {
            int set = 0;
            for (int p = 0; p < standing; p++) set |= 1 << at(places, p);
            return set;
        }

        int isStoneLawful(int stone) {
            int place = placeOf(stone);
            if (place == NOT) return NOT;
            return isLawfulAt(places, standing, place) ? 1 : 0;
        }

        boolean isLawful(int[] order, int n) {
            for (int p = 0; p < n; p++) {
                if (!isLawfulAt(order, n, p)) return false;
            }
            return true;
        }

        int firstUnlawful(int[] order, int n) {
            for (int p = 0; p < n; p++) {
                if (!isLawfulAt(order, n, p)) return p;
            }
            return NOT;
        }

        /** The place beside this one, a step of -1 or 1 away, of a row of n; NONE. */
        int placeBeside(int place, int n, int step) {
            int beside = place + step;
            if (beside >= 0 && beside < n) return beside;
            if (ring == 0) return NONE;
            return beside < 0 ? n - 1 : 0;
        }

        boolean isLawfulAt(int[] order, int n, int place) {
            int left = placeBeside(place, n, -1);
            int right = placeBeside(place, n, 1);
            int s = at(order, place);
            int l = left == NONE ? NONE : at(order, left);
            int r = right == NONE ? NONE : at(order, right);
            if (n != judgedFor) {
                judgedFor = n;
                judgeAnew();
            }
            int slot = slotOf(place, s, l, r);
            int verdict = at(verdicts, slot);
            if (verdict >> 1 != stamp) {
                int says = law.value(weightOf(s), weightOf(l), weightOf(r), place, n, s);
                verdict = stamp * 2 + (says != 0 ? 1 : 0);
                lay(verdicts, slot, verdict);
            }
            return (verdict & 1) == 1;
        }

        /** Where the verdict is kept; NONE: it isn't, as MADE_UP is there, whose weight changes all the time. */
        private static int slotOf(int place, int s, int l, int r) {
            if (s == MADE_UP || l == MADE_UP || r == MADE_UP) return NONE;
            return ((place * BESIDES + l + 1) * MOST_STONES + s) * BESIDES + r + 1;
        }

        void lead() {
            deeds++;
            if (!isLawful(places, standing)) wrongs++;
        }

        int keepImage() {
            copy(places, imagePlaces, standing);
            imageStanding = standing;
            imageDeeds = deeds;
            imageWrongs = wrongs;
            hasImage = true;
            return standing;
        }

        int layBack() {
            if (!hasImage) return STATE;
            copy(imagePlaces, places, imageStanding);
            standing = imageStanding;
            deeds = imageDeeds;
            wrongs = imageWrongs;
            return standing;
        }
    }

    /** Changes of numbers, the latest last; those from done on are undone. */
    private static final class Changes {
        private static final int MOST = 40;
        /** Stands for the stone's number where RING is changed. */
        private static final int RING = -1;

        private final Quay quay;
        private final int[] numbers = new int[MOST];
        private final int[] before = new int[MOST];
        private final int[] behind = new int[MOST];
        private int done;
        private int kept;

        Changes(Quay quay) {
            this.quay = quay;
        }

        int change(int number, int v) {
            int was = number == RING ? quay.ring : quay.weightOf(number);
            // no number has changed: nothing is there to be undone, and what was undone may still be done again
            if (v == was) return was;
            if (done == MOST) forgetFirst();
            lay(numbers, done, number);
            lay(before, done, was);
            lay(behind, done, v);
            done++;
            kept = done;
            become(number, v);
            return was;
        }

        private void forgetFirst() {
            remove(numbers, MOST, 0);
            remove(before, MOST, 0);
            remove(behind, MOST, 0);
            done--;
        }

        private void become(int number, int v) {
            if (number == RING) quay.ring = v;
            else quay.weigh(number, v);
        }

        int undoLatest() {
            if (done == 0) return STATE;
            done--;
            become(at(numbers, done), at(before, done));
            return done;
        }

        int redoNext() {
            if (done == kept) return STATE;
            become(at(numbers, done), at(behind, done));
            done++;
            return kept - done;
        }
    }

    /** What the row would be, were one thing done to it. */
    private static final class Tries {
        private final Quay quay;
        private final int[] order = new int[MOST_STONES + 1];
        private final int[] lighter = new int[MOST_STONES];
        private int madeUpAt;

        Tries(Quay quay) {
            this.quay = quay;
        }

        private void beginAnew() {
            copy(quay.places, order, quay.standing);
        }

        int mayBeSold() {
            int sold = 0;
            int n = quay.standing;
            for (int p = 0; p < n; p++) {
                beginAnew();
                remove(order, n, p);
                if (quay.isLawful(order, n - 1)) sold |= 1 << at(quay.places, p);
            }
            return sold;
        }

        int lawfulWays(boolean turning) {
            int ways = 0;
            int n = quay.standing;
            for (int i = 0; i < n; i++) {
                for (int j = i + 1; j < n; j++) {
                    beginAnew();
                    if (turning) reverse(order, i, j);
                    else exchange(order, i, j);
                    if (quay.isLawful(order, n)) ways++;
                }
            }
            return ways;
        }

        /**
         * One pass is enough: a stone that has too much keeps what both beside it weigh, so it is still no lighter
         * than either of them, and they stay lawful. What is taken off must be, as no weight ever rises.
         */
        boolean knockOff() {
            int n = quay.standing;
            for (int p = 0; p < n; p++) lay(lighter, p, quay.weightOf(at(quay.places, p)));
            for (int p = 0; p < n; p++) {
                int most = lighterBeside(p, n, -1) + lighterBeside(p, n, 1);
                lay(lighter, p, Math.min(at(lighter, p), most));
            }
            for (int p = 0; p < n; p++) {
                if (at(lighter, p) < 1) return false;
            }
            return true;
        }

        private int lighterBeside(int place, int n, int step) {
            int beside = quay.placeBeside(place, n, step);
            return beside == NONE ? 0 : at(lighter, beside);
        }

        int knockedOff() {
            int off = 0;
            for (int p = 0; p < quay.standing; p++) off += quay.weightOf(at(quay.places, p)) - at(lighter, p);
            return off;
        }

        /** Leaves the weight with the stone that makes up, the place in madeUpAt. */
        boolean findMakingUp() {
            int n = quay.standing;
            for (int v = 1; v <= HEAVIEST; v++) {
                quay.weigh(MADE_UP, v);
                for (int p = 0; p <= n; p++) {
                    beginAnew();
                    insert(order, n, p, MADE_UP);
                    madeUpAt = p;
                    if (quay.isLawful(order, n + 1)) return true;
                }
            }
            return false;
        }

        int lawfulMixings(int seed, int times, int stone) {
            int lawful = 0;
            int z = seed;
            int n = quay.standing;
            for (int t = 0; t < times; t++) {
                beginAnew();
                for (int i = n - 1; i >= 1; i--) {
                    z = z * 1103515245 + 12345;
                    exchange(order, i, (z >>> 8) % (i + 1));
                }
                boolean counts = stone == NONE ? quay.isLawful(order, n)
                        : quay.isLawfulAt(order, n, Quay.placeIn(order, n, stone));
                if (counts) lawful++;
            }
            return lawful;
        }
    }

    /** The lawful orders of a set of stones that fit what is told of their places. */
    private static final class Orders {
        private static final int GAP = -1, MOST_ORDERS = 40320;

        private final Quay quay;
        /** By places the stone that must stand there, or GAP. */
        private final int[] fit = new int[MOST_STONES];
        private final int[] order = new int[MOST_STONES];
        private final int[] first = new int[MOST_STONES];
        private int size;
        private int found;
        private int enough;

        Orders(Quay quay) {
            this.quay = quay;
        }

        void fitAll() {
            for (int p = 0; p < MOST_STONES; p++) lay(fit, p, GAP);
        }

        void fitBook(Shelves shelves, int shelf) {
            fitAll();
            for (int p = 0; p < MOST_STONES && p < shelves.length(shelf); p++) {
                lay(fit, p, (int) shelves.valueAt(shelf, p));
            }
        }

        /** How many (place -1), or the stone at a place of the first one, or NOT. */
        int answer(int set, int place) {
            size = Integer.bitCount(set);
            found = 0;
            enough = place == -1 ? MOST_ORDERS : 1;
            fill(0, set);
            if (place == -1) return found;
            return found == 0 ? NOT : at(first, place);
        }

        private void fill(int place, int left) {
            if (place >= size) {
                finish();
                return;
            }
            for (int s = 0; s < MOST_STONES && found < enough; s++) {
                if ((left >> s & 1) == 0 || at(fit, place) != GAP && at(fit, place) != s) continue;
                lay(order, place, s);
                if (isLawfulBefore(place)) fill(place + 1, left & ~(1 << s));
            }
        }

        /** Whether the stone ahead of this place is lawful, as far as both beside it stand. */
        private boolean isLawfulBefore(int place) {
            if (place == 0 || place == 1 && quay.ring == 1) return true;
            return quay.isLawfulAt(order, size, place - 1);
        }

        private void finish() {
            if (size > 0 && !(quay.isLawfulAt(order, size, size - 1) && quay.isLawfulAt(order, size, 0))) return;
            if (found == 0) copy(order, first, size);
            found++;
        }
    }

    /** A ship's stones, set at the ends. */
    private static final class Ship {
        private final Quay quay;
        private final int[] brought = new int[MOST_STONES];
        private final int[] order = new int[MOST_STONES];

        Ship(Quay quay) {
            this.quay = quay;
        }

        int firstWay(int set) {
            int n = 0;
            for (int s = 0; s < MOST_STONES; s++) {
                if ((set >> s & 1) == 0) continue;
                lay(brought, n, s);
                n++;
            }
            for (int way = 0; way < 1 << n; way += 2) {
                setAtEnds(n, way);
                if (quay.isLawful(order, n)) return way;
            }
            return NOT;
        }

        private void setAtEnds(int n, int way) {
            int left = n - 1 - Integer.bitCount(way);
            int right = left;
            lay(order, left, at(brought, 0));
            for (int i = 1; i < n; i++) {
                if ((way >> i & 1) == 1) {
                    right++;
                    lay(order, right, at(brought, i));
                } else {
                    left--;
                    lay(order, left, at(brought, i));
                }
            }
        }

        int fewestAside(int set) {
            int all = Integer.bitCount(set);
            for (int n = 0; n < all; n++) {
                for (int aside = 0; aside < set; aside++) {
                    if ((aside & ~set) != 0 || Integer.bitCount(aside) != n) continue;
                    if (firstWay(set & ~aside) != NOT) return aside;
                }
            }
            return set;
        }
    }

    /** Sales from the row one after another. */
    private static final class Sales {
        private final Quay quay;
        /** By places (bits) that are left: how many more sales there can be; NONE: what is left may not stand. */
        private final int[] further = new int[1 << MOST_STONES];
        private final int[] order = new int[MOST_STONES];

        Sales(Quay quay) {
            this.quay = quay;
        }

        private int all() {
            return (1 << quay.standing) - 1;
        }

        int most() {
            int all = all();
            for (int left = 0; left < all; left++) lay(further, left, isLawful(left) ? mostFrom(left) : NONE);
            return mostFrom(all);
        }

        private boolean isLawful(int left) {
            int n = 0;
            for (int p = 0; p < quay.standing; p++) {
                if ((left >> p & 1) == 0) continue;
                lay(order, n, at(quay.places, p));
                n++;
            }
            return quay.isLawful(order, n);
        }

        private int mostFrom(int left) {
            int most = 0;
            for (int p = 0; p < quay.standing; p++) {
                if ((left >> p & 1) == 1) most = Math.max(most, at(further, left & ~(1 << p)) + 1);
            }
            return most;
        }

        /** The k-th sale (from 0) of the first row of sales, when most() has been asked and is above k. */
        int sale(int k) {
            int left = all();
            int sold = NOT;
            for (int i = 0; i <= k; i++) {
                sold = firstSale(left);
                if (sold == NOT) return NOT;
                left &= ~(1 << quay.placeOf(sold));
            }
            return sold;
        }

        private int firstSale(int left) {
            int most = mostFrom(left);
            for (int s = 0; s < MOST_STONES; s++) {
                int place = quay.placeOf(s);
                if (place == NOT || (left >> place & 1) == 0) continue;
                int rest = at(further, left & ~(1 << place));
                if (rest != NONE && rest + 1 == most) return s;
            }
            return NOT;
        }
    }

    /** The fewest turns from the row to a told one, order by order outwards from the row. */
    private static final class Turns {
        private static final int MOST = 6, ORDERS = 720;
        private static final int UNSEEN = -1, UNLAWFUL = -2;

        private final Quay quay;
        private final int[] told = new int[MOST];
        private final int[] order = new int[MOST];
        private final int[] turned = new int[MOST];
        /** By the rank of an order: how many turns away it is, UNSEEN or UNLAWFUL. */
        private final int[] away = new int[ORDERS];
        private final int[] queue = new int[ORDERS];
        private int queued;

        Turns(Quay quay) {
            this.quay = quay;
        }

        /** Whether the row on the shelf is just the stones in THE ROW, each once, and not too many. */
        boolean isTold(Shelves shelves, int shelf) {
            int n = quay.standing;
            if (n > MOST || shelves.length(shelf) != n) return false;
            int missing = quay.setOfRow();
            for (int p = 0; p < n; p++) {
                int stone = (int) shelves.valueAt(shelf, p);
                if (!quay.has(stone) || (missing >> stone & 1) == 0) return false;
                missing &= ~(1 << stone);
                lay(told, p, stone);
            }
            return true;
        }

        int fewestTurns() {
            int n = quay.standing;
            int goal = rank(told, n);
            for (int i = 0; i < ORDERS; i++) lay(away, i, UNSEEN);
            queued = 0;
            copy(quay.places, turned, n);
            reach(n, 0);
            for (int head = 0; head < ORDERS && head < queued && at(away, goal) < 0; head++) {
                unpack(at(queue, head), n);
                turnEachWay(n, at(away, rank(order, n)) + 1);
            }
            return at(away, goal) < 0 ? NOT : at(away, goal);
        }

        private void turnEachWay(int n, int distance) {
            for (int i = 0; i < n; i++) {
                for (int j = i + 1; j < n; j++) {
                    copy(order, turned, n);
                    reverse(turned, i, j);
                    reach(n, distance);
                }
            }
        }

        private void reach(int n, int distance) {
            int rank = rank(turned, n);
            if (at(away, rank) != UNSEEN) return;
            if (distance > 0 && !quay.isLawful(turned, n)) {
                lay(away, rank, UNLAWFUL);
                return;
            }
            lay(away, rank, distance);
            lay(queue, queued, packed(n));
            queued++;
        }

        private int packed(int n) {
            int packed = 0;
            for (int p = 0; p < n; p++) packed |= at(turned, p) << 3 * p;
            return packed;
        }

        private void unpack(int packed, int n) {
            for (int p = 0; p < n; p++) lay(order, p, packed >> 3 * p & 7);
        }

        /** How many orders of the same stones come ahead of this one. */
        private static int rank(int[] row, int n) {
            int rank = 0;
            for (int p = 0; p < n; p++) {
                int lower = 0;
                for (int q = p + 1; q < n; q++) {
                    if (at(row, q) < at(row, p)) lower++;
                }
                rank = rank * (n - p) + lower;
            }
            return rank;
        }
    }

    /** Bodies of kinds, their acts and the trace. */
    private static final class Acts {
        private static final int MOST = 50, KINDS = 8, ACTS = 4, TRACED = 24, DEEPEST = 40;
        private static final int STANDS = 0, HOLDS = 1, SETS = 2, SELLS = 3;
        /** By kinds: the kind above. */
        private static final int[] ABOVE = {-1, 0, 0, 2, 1, 3, 0, 6};
        /** By kinds, and in each by acts: the number of its body, 0: it has none. */
        private static final int[] NUMBERS = {
            1, 10, 11, 2,
            20, 0, 0, 0,
            0, 30, 0, 0,
            0, 41, 40, 0,
            0, 0, 0, 50,
            0, 0, 60, 61,
            70, 0, 0, 0,
            81, 80, 0, 0};

        private final int[] kinds = new int[MOST];
        private int bodies;
        private final int[] trace = new int[TRACED];
        private int ran;
        /** The body that acts. */
        private int self;

        int add(int kind) {
            if (kind < 0 || kind >= KINDS) return BAD;
            if (bodies >= MOST) return FULL;
            lay(kinds, bodies, kind);
            bodies++;
            return bodies - 1;
        }

        boolean has(int body) {
            return body >= 0 && body < bodies;
        }

        int kindOf(int body) {
            return has(body) ? at(kinds, body) : NONE;
        }

        boolean isUnder(int kind, int top) {
            int k = kind;
            for (int i = 0; i < KINDS && k != NONE; i++) {
                if (k == top) return true;
                k = at(ABOVE, k);
            }
            return false;
        }

        int traced(int i) {
            return i >= 0 && i < ran && i < TRACED ? at(trace, i) : BAD;
        }

        int start(int body, int act, int x) {
            ran = 0;
            if (!has(body) || act < 0 || act >= ACTS) return 0;
            self = body;
            return own(act, x, 0);
        }

        private int own(int act, int x, int depth) {
            return run(kindOf(self), act, x, depth + 1);
        }

        private int numberOf(int kind, int act) {
            int k = kind;
            for (int i = 0; i < KINDS && k != NONE; i++) {
                int number = at(NUMBERS, k * ACTS + act);
                if (number != 0) return number;
                k = at(ABOVE, k);
            }
            return 0;
        }

        /** Runs the body of an act that this kind has, or the next one above. */
        private int run(int kind, int act, int x, int depth) {
            int number = numberOf(kind, act);
            if (number == 0 || depth > DEEPEST) return 0;
            lay(trace, ran, number);
            ran++;
            switch (number) {
                case 1: return x + self;
                case 2: return own(HOLDS, x, depth) - own(SETS, 1, depth);
                case 10: return own(STANDS, x, depth) * 2;
                case 11: return x ^ self;
                default: return runUnder(number, x, depth);
            }
        }

        /** Runs a body of a kind under STONE: its number's tens tell the kind. */
        private int runUnder(int number, int x, int depth) {
            int above = at(ABOVE, number / 10 - 1);
            int d = depth + 1;
            switch (number) {
                case 20: return run(above, STANDS, x, d) + 3;
                case 30: return -run(above, HOLDS, x, d);
                case 40: return run(above, SETS, x, d) * 3;
                case 41: return run(above, HOLDS, x + 1, d);
                case 50: return run(above, SELLS, x, d) ^ 5;
                case 60: return run(above, SETS, x, d) - own(STANDS, 2, depth);
                case 61: return run(above, SELLS, x, d) + 1;
                case 70: return run(above, STANDS, x, d) * 2;
                case 80: return run(above, HOLDS, x, d) + own(SETS, 2, depth);
                case 81: return run(above, STANDS, x, d) - 1;
                default: return 0;
            }
        }
    }

    /** Shelves, each with nothing, a body, or a row of one of the sorts. */
    private static final class Shelves {
        private static final int SHELVES = 6, LONGEST = 60, SORTS = 5;
        private static final int NOTHING = -2, BODY = -1;
        private static final int BYTES = 0, SHORTS = 1, INTS = 2, LONGS = 3;

        /** By shelves: NOTHING, BODY, or the sort of the row. */
        private final int[] held = new int[SHELVES];
        /** By shelves: the body's number, or the row's length. */
        private final int[] sizes = new int[SHELVES];
        private final long[] elements = new long[SHELVES * LONGEST];

        Shelves() {
            for (int i = 0; i < SHELVES; i++) lay(held, i, NOTHING);
        }

        boolean has(int shelf) {
            return shelf >= 0 && shelf < SHELVES;
        }

        boolean isEmpty(int shelf) {
            return at(held, shelf) == NOTHING;
        }

        boolean holdsBody(int shelf) {
            return at(held, shelf) == BODY;
        }

        int bodyOn(int shelf) {
            return at(sizes, shelf);
        }

        /** The length of the row on a shelf; nothing and a body have none. */
        int length(int shelf) {
            return at(held, shelf) >= 0 ? at(sizes, shelf) : 0;
        }

        void hold(int shelf, int what, int size) {
            lay(held, shelf, what);
            lay(sizes, shelf, size);
            for (int i = 0; i < LONGEST; i++) store(shelf, i, 0);
        }

        private int refusesRow(int shelf) {
            if (!has(shelf)) return BAD;
            if (isEmpty(shelf)) return NOTHING_THERE;
            return holdsBody(shelf) ? OTHER_KIND : 0;
        }

        int refusesBytes(int shelf) {
            int refusal = refusesRow(shelf);
            if (refusal != 0) return refusal;
            return at(held, shelf) == BYTES ? 0 : OTHER_KIND;
        }

        int refusesElement(int shelf, int i) {
            int refusal = refusesRow(shelf);
            if (refusal != 0) return refusal;
            return i >= 0 && i < length(shelf) ? 0 : NO_PLACE;
        }

        int refusesPair(int shelf, int other) {
            if (!has(shelf) || !has(other)) return BAD;
            if (isEmpty(shelf) || isEmpty(other)) return NOTHING_THERE;
            return at(held, shelf) >= 0 && at(held, shelf) == at(held, other) ? 0 : OTHER_KIND;
        }

        long valueAt(int shelf, int i) {
            int slot = shelf * LONGEST + i;
            return slot >= 0 && slot < elements.length ? elements[slot] : 0;
        }

        private void store(int shelf, int i, long v) {
            int slot = shelf * LONGEST + i;
            if (slot >= 0 && slot < elements.length) elements[slot] = v;
        }

        void enter(int shelf, int i, long v) {
            store(shelf, i, narrowed(at(held, shelf), v));
        }

        private static long narrowed(int sort, long v) {
            switch (sort) {
                case BYTES: return (byte) v;
                case SHORTS: return (short) v;
                case INTS: return (int) v;
                case LONGS: return v;
                default: return v != 0 ? 1 : 0;
            }
        }

        boolean move(int shelf, int i, int other, int j, int n) {
            if (n < 0 || i < 0 || j < 0) return false;
            if (i > length(shelf) - n || j > length(other) - n) return false;
            // from the end that is not overwritten before it has been read
            boolean upwards = i > j;
            for (int k = 0; k < n; k++) {
                int step = upwards ? k : n - 1 - k;
                store(other, j + step, valueAt(shelf, i + step));
            }
            return true;
        }
    }
}
