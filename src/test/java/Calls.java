/** The face, call by number. */
final class Calls {
    private Calls() {
    }

    static long call(BothBeside x, int what, int[] a, long v) {
        switch (what) {
            case 0: return x.stone(a[0]);
            case 1: return x.stones(a[0], a[1], a[2]);
            case 2: return x.mend(a[0], a[1], a[2]);
            case 3: return x.of(a[0], a[1]);
            case 4: return x.feed(a[0]);
            case 5: return x.law();
            case 6: return x.set(a[0], a[1]);
            case 7: return x.take(a[0]);
            case 8: return x.turn(a[0]);
            case 9: return x.broken();
            case 10: return x.maySell();
            case 11: return x.ways(a[0]);
            case 12: return x.rows(a[0], a[1]);
            case 13: return x.ounces(a[0]);
            case 14: return x.makeUp(a[0]);
            case 15: return x.ends(a[0]);
            case 16: return x.aside(a[0]);
            case 17: return x.soldOn(a[0]);
            case 18: return x.worth(a[0], a[1]);
            case 19: return x.fewest(a[0]);
            case 20: return x.book(a[0], a[1]);
            case 21: return x.mixed(a[0], a[1], a[2]);
            case 22: return x.image();
            case 23: return x.back();
            case 24: return x.undo();
            case 25: return x.redo();
            case 26: return x.body(a[0]);
            case 27: return x.act(a[0], a[1], a[2]);
            case 28: return x.trace(a[0]);
            case 29: return x.keep(a[0], a[1]);
            case 30: return x.row(a[0], a[1], a[2]);
            case 31: return x.put(a[0], a[1], v);
            case 32: return x.element(a[0], a[1]);
            case 33: return x.shift(a[0], a[1], a[2], a[3], a[4]);
            case 34: return x.taken(a[0], a[1]);
            case 35: return x.count(a[0]);
            case 36: return x.feed("wlrkns12!-+(<&|?;)".charAt(Math.floorMod(a[1], 18)));
            default: return x.put(a[0], a[1], a[2]);
        }
    }
}
