/** The edges of promises 33 to 39: keep, row, put, element, shift, taken, count. */
final class EdgesOfShelves {
    private static final int BAD = LemonGate.BAD;
    private static final int LEAST = Integer.MIN_VALUE, MOST = Integer.MAX_VALUE;
    private static final int NOTHING = -11, ANOTHER_KIND = -12, NO_PLACE = -13, BELOW_0 = -14;
    private static final long NO = Long.MIN_VALUE;
    private static final int[] NOT_SHELVES = {-1, 6, LEAST, MOST};

    private final Said said;

    EdgesOfShelves(Said said) {
        this.said = said;
    }

    void all() {
        shelves();
        lowestBits();
        refusals();
        keep();
        row();
        put();
        element();
        shift();
        shiftWithin();
        shiftRefused();
        taken();
        count();
    }

    private void shelves() {
        said.says(0, "SHELVES 0 .. 5 each hold nothing (at first), a GLASS (a BODY), or a ROW: of 0 bytes, 1 shorts, 2 ints,"
                + " 3 longs, 4 booleans, of 0 .. 60 elements, 0 at first (false);");
        LemonGate x = new LemonGate();
        x.body(6);
        for (int shelf = 0; shelf <= 5; shelf++) {
            said.due("nothing at first", x.put(shelf, 0, 1), NOTHING);
            said.due("a glass", x.keep(shelf, 0), 1);
            said.due("it is that glass", x.taken(shelf, 6), 6);
            for (int sort = 0; sort <= 4; sort++) {
                said.due("a row of none", x.row(shelf, sort, 0), 1);
                said.due("no place in it", x.put(shelf, 0, 1), NO_PLACE);
                said.due("a row of 60", x.row(shelf, sort, 60), 1);
                said.due("0 at first", x.element(shelf, 0), 0);
                said.due("0 at last", x.element(shelf, 59), 0);
                said.due("the last place in it", x.put(shelf, 59, 1), 1);
                said.due("no place 60 in it", x.put(shelf, 60, 1), NO_PLACE);
            }
            said.due("nothing again", x.keep(shelf, -1), 1);
            said.due("it holds nothing", x.put(shelf, 0, 1), NOTHING);
        }
        for (int shelf : NOT_SHELVES) {
            said.due("no shelf " + shelf, x.keep(shelf, -1), BAD);
        }
        for (int sort = 0; sort <= 4; sort++) {
            x.row(0, sort, 60);
            for (int i = 0; i < 60; i++) {
                x.put(0, i, -1);
            }
            x.row(0, sort, 60);
            int sum = 0;
            for (int i = 0; i < 60; i += 9) {
                sum += x.element(0, i) != 0 ? 1 : 0;
            }
            said.due("a row made again is of 0", sum, 0);
            x = new LemonGate();
        }
    }

    private void lowestBits() {
        said.says(0, "what is put in keeps its lowest bits (a boolean: whether it is not 0; 1 or 0).");
        long[][] bytes = {{127, 127}, {128, -128}, {255, -1}, {256, 0}, {-128, -128}, {-129, 127}, {Long.MAX_VALUE, -1}, {NO, 0}};
        long[][] shorts = {{32767, 32767}, {32768, -32768}, {65535, -1}, {65536, 0}, {-32768, -32768}, {-32769, 32767}, {NO, 0}};
        long[][] ints = {{MOST, MOST}, {MOST + 1L, LEAST}, {0xffffffffL, -1}, {1L << 32, 0}, {LEAST, LEAST}, {LEAST - 1L, MOST}, {NO, 0}};
        long[][] longs = {{Long.MAX_VALUE, Long.MAX_VALUE}, {NO, NO}, {-1, -1}, {1L << 32, 1L << 32}, {0, 0}};
        long[][] booleans = {{0, 0}, {1, 1}, {2, 1}, {-1, 1}, {256, 1}, {1L << 32, 1}, {NO, 1}, {Long.MAX_VALUE, 1}};
        long[][][] sorts = {bytes, shorts, ints, longs, booleans};
        LemonGate x = new LemonGate();
        for (int sort = 0; sort <= 4; sort++) {
            x.row(5, sort, 3);
            for (long[] b : sorts[sort]) {
                said.due("put " + b[0], x.put(5, 1, b[0]), 1);
                said.due("sort " + sort + " of " + b[0], x.element(5, 1), b[1]);
            }
            said.due("the one ahead stays", x.element(5, 0), 0);
            said.due("the one behind stays", x.element(5, 2), 0);
        }
    }

    private void refusals() {
        said.says(0, "The host's REFUSALS: -11 nothing is there where something is wanted; -12 it is of another kind;"
                + " -13 a place that is not there; -14 a size below 0.");
        LemonGate x = new LemonGate();
        said.due("nothing is there", x.put(0, 0, 1), -11);
        x.body(0);
        x.keep(0, 0);
        said.due("of another kind", x.put(0, 0, 1), -12);
        x.row(0, 0, 1);
        said.due("a place that is not there", x.put(0, 1, 1), -13);
        said.due("a size below 0", x.row(0, 0, -1), -14);
    }

    private void keep() {
        said.says(33, "A SHELF holds nothing (body -1), or a GLASS: 1. BAD.");
        LemonGate x = new LemonGate();
        said.due("no glass yet", x.keep(0, 0), BAD);
        said.due("nothing for nothing", x.keep(0, -1), 1);
        x.body(2);
        x.body(3);
        said.due("keep(5, 1)", x.keep(5, 1), 1);
        int[] bad = {-2, 2, 49, 50, LEAST, MOST};
        for (int body : bad) {
            said.due("keep(5, " + body + ")", x.keep(5, body), BAD);
        }
        for (int shelf : NOT_SHELVES) {
            said.due("keep(" + shelf + ", 0)", x.keep(shelf, 0), BAD);
            said.due("keep(" + shelf + ", -1)", x.keep(shelf, -1), BAD);
        }
        said.due("it stays", x.taken(5, 0), 3);
        said.due("another one for it", x.keep(5, 0), 1);
        said.due("taken(5, 0)", x.taken(5, 0), 2);
        said.due("the same one twice", x.keep(4, 0), 1);
        x.row(5, 0, 1);
        said.due("one for a row", x.keep(5, 1), 1);
        said.due("taken(5, 3)", x.taken(5, 3), 3);
        x.row(5, 0, 1);
        said.due("nothing for a row", x.keep(5, -1), 1);
        said.due("taken(5, 0)", x.taken(5, 0), NOTHING);
    }

    private void row() {
        said.says(34, "A SHELF holds a ROW: 1. BAD (sort, n above 60); -14.");
        LemonGate x = new LemonGate();
        x.row(0, 3, 2);
        x.put(0, 1, 7);
        int[][] bad = {{0, -1, 1}, {0, 5, 1}, {0, LEAST, 1}, {0, MOST, 1}, {0, 0, 61}, {0, 0, 100}, {0, 0, MOST},
            {-1, 0, 1}, {6, 0, 1}, {LEAST, 0, 1}, {MOST, 0, 1}, {0, 5, 61}, {0, 5, -1}, {0, -1, -1}, {6, 0, -1}, {-1, 0, LEAST}};
        for (int[] b : bad) {
            said.due("row(" + b[0] + ", " + b[1] + ", " + b[2] + ")", x.row(b[0], b[1], b[2]), BAD);
        }
        int[] below = {-1, -60, LEAST};
        for (int n : below) {
            said.due("row(0, 0, " + n + ")", x.row(0, 0, n), BELOW_0);
            said.due("row(1, 4, " + n + ")", x.row(1, 4, n), BELOW_0);
        }
        said.due("it stays", x.element(0, 1), 7);
        said.due("nothing stays", x.put(1, 0, 1), NOTHING);
        said.due("row(0, 0, 0)", x.row(0, 0, 0), 1);
        said.due("row(0, 4, 60)", x.row(0, 4, 60), 1);
        said.due("row(5, 3, 1)", x.row(5, 3, 1), 1);
    }

    private void put() {
        said.says(35, "Element i of a ROW becomes v: 1. BAD, -11, -12, -13.");
        LemonGate x = new LemonGate();
        for (int shelf : NOT_SHELVES) {
            said.due("put(" + shelf + ", 0, 1)", x.put(shelf, 0, 1), BAD);
        }
        int[] off = {-1, 2, 60, LEAST, MOST};
        for (int i : off) {
            said.due("nothing is named first: put(0, " + i + ", 1)", x.put(0, i, 1), NOTHING);
        }
        x.body(0);
        x.keep(0, 0);
        for (int i : off) {
            said.due("a glass is named first: put(0, " + i + ", 1)", x.put(0, i, 1), ANOTHER_KIND);
        }
        x.row(0, 2, 2);
        for (int i : off) {
            said.due("put(0, " + i + ", 1)", x.put(0, i, 1), NO_PLACE);
        }
        said.due("put(0, 0, -3)", x.put(0, 0, -3), 1);
        said.due("put(0, 1, 4)", x.put(0, 1, 4), 1);
        said.due("element(0, 0)", x.element(0, 0), -3);
        said.due("element(0, 1)", x.element(0, 1), 4);
    }

    private void element() {
        said.says(36, "Element i of a ROW; Long.MIN_VALUE: BAD, -11 to -13.");
        LemonGate x = new LemonGate();
        for (int shelf : NOT_SHELVES) {
            said.due("element(" + shelf + ", 0)", x.element(shelf, 0), NO);
        }
        said.due("nothing", x.element(0, 0), NO);
        x.body(0);
        x.keep(0, 0);
        said.due("a glass", x.element(0, 0), NO);
        x.row(0, 2, 2);
        x.put(0, 1, 5);
        int[] off = {-1, 2, 59, 60, LEAST, MOST};
        for (int i : off) {
            said.due("element(0, " + i + ")", x.element(0, i), NO);
        }
        said.due("element(0, 1)", x.element(0, 1), 5);
        x.row(0, 2, 0);
        said.due("of a row of none", x.element(0, 0), NO);
    }

    /** A row of ints 1 .. n. */
    private static void ints(LemonGate x, int shelf, int n) {
        x.row(shelf, 2, n);
        for (int i = 0; i < n; i++) {
            x.put(shelf, i, i + 1);
        }
    }

    private void holds(LemonGate x, int shelf, int... want) {
        for (int i = 0; i < want.length; i++) {
            said.due("element(" + shelf + ", " + i + ")", x.element(shelf, i), want[i]);
        }
    }

    private void shift() {
        said.says(37, "n elements of a ROW from i on come to another one (or the same) from j on, as they all were before: n.");
        LemonGate x = new LemonGate();
        ints(x, 0, 5);
        x.row(1, 2, 4);
        said.due("shift(0, 1, 1, 0, 4)", x.shift(0, 1, 1, 0, 4), 4);
        holds(x, 1, 2, 3, 4, 5);
        holds(x, 0, 1, 2, 3, 4, 5);
        said.due("shift(1, 3, 0, 4, 1)", x.shift(1, 3, 0, 4, 1), 1);
        said.due("none", x.shift(0, 0, 1, 0, 0), 0);
        said.due("none, at both ends", x.shift(0, 5, 1, 4, 0), 0);
        holds(x, 1, 2, 3, 4, 5);
        for (int sort = 0; sort <= 4; sort++) {
            x.row(2, sort, 60);
            x.row(3, sort, 60);
            x.put(2, 0, 1);
            x.put(2, 59, 1);
            said.due("60 of sort " + sort, x.shift(2, 0, 3, 0, 60), 60);
            said.due("the first one", x.element(3, 0), 1);
            said.due("the last one", x.element(3, 59), 1);
        }
    }

    private void shiftWithin() {
        LemonGate x = new LemonGate();
        ints(x, 0, 5);
        said.due("up in itself", x.shift(0, 0, 0, 1, 4), 4);
        holds(x, 0, 1, 1, 2, 3, 4);
        ints(x, 0, 5);
        said.due("down in itself", x.shift(0, 1, 0, 0, 4), 4);
        holds(x, 0, 2, 3, 4, 5, 5);
        ints(x, 0, 5);
        said.due("onto itself", x.shift(0, 0, 0, 0, 5), 5);
        holds(x, 0, 1, 2, 3, 4, 5);
        said.due("up by 2", x.shift(0, 0, 0, 2, 3), 3);
        holds(x, 0, 1, 2, 1, 2, 3);
    }

    private void shiftRefused() {
        said.says(37, "BAD, -11 (either), -12 (no ROWS, or of unlike sorts), -13.");
        LemonGate x = new LemonGate();
        for (int shelf : NOT_SHELVES) {
            said.due("from " + shelf, x.shift(shelf, 0, 0, 0, 0), BAD);
            said.due("to " + shelf, x.shift(0, 0, shelf, 0, 0), BAD);
        }
        x.body(0);
        x.keep(1, 0);
        ints(x, 2, 5);
        ints(x, 3, 4);
        x.row(4, 3, 5);
        // shelf 0 holds nothing, 1 a glass, 2 and 3 ints, 4 longs
        int[][] none = {{0, 0}, {0, 1}, {1, 0}, {0, 2}, {2, 0}};
        for (int[] b : none) {
            said.due("nothing: " + b[0] + " to " + b[1], x.shift(b[0], 0, b[1], 0, 0), NOTHING);
            said.due("nothing is named first", x.shift(b[0], 9, b[1], -1, -1), NOTHING);
        }
        int[][] kinds = {{1, 1}, {1, 2}, {2, 1}, {2, 4}, {4, 2}};
        for (int[] b : kinds) {
            said.due("of another kind: " + b[0] + " to " + b[1], x.shift(b[0], 0, b[1], 0, 0), ANOTHER_KIND);
            said.due("another kind is named first", x.shift(b[0], 9, b[1], -1, -1), ANOTHER_KIND);
        }
        for (int sort = 0; sort <= 4; sort++) {
            for (int other = 0; other <= 4; other++) {
                x.row(5, sort, 1);
                x.row(4, other, 1);
                said.due("sorts " + sort + ", " + other, x.shift(5, 0, 4, 0, 1), sort == other ? 1 : ANOTHER_KIND);
            }
        }
        int[][] off = {{-1, 0, 1}, {0, -1, 1}, {-1, 0, 0}, {0, -1, 0}, {6, 0, 0}, {0, 5, 0}, {5, 0, 1}, {0, 4, 1}, {4, 0, 2},
            {0, 0, 5}, {0, 1, 4}, {1, 0, 5}, {0, 0, -1}, {1, 1, -1}, {0, 0, MOST}, {1, 1, MOST}, {MOST, 0, 1}, {0, MOST, 1},
            {MOST, MOST, MOST}, {LEAST, 0, 1}, {0, LEAST, 1}, {0, 0, LEAST}, {LEAST, LEAST, LEAST}};
        for (int[] b : off) {
            said.due("shift(2, " + b[0] + ", 3, " + b[1] + ", " + b[2] + ")", x.shift(2, b[0], 3, b[1], b[2]), NO_PLACE);
        }
        holds(x, 3, 1, 2, 3, 4);
    }

    private void taken() {
        said.says(38, "What a SHELF holds, taken for a GLASS of KIND k (0 .. 7), or under it: its KIND. BAD, -11, -12.");
        LemonGate x = new LemonGate();
        for (int shelf : NOT_SHELVES) {
            said.due("taken(" + shelf + ", 0)", x.taken(shelf, 0), BAD);
        }
        int[] bad = {-1, 8, LEAST, MOST};
        for (int k : bad) {
            said.due("bad is named first: taken(0, " + k + ")", x.taken(0, k), BAD);
        }
        for (int k = 0; k <= 7; k++) {
            said.due("nothing: taken(0, " + k + ")", x.taken(0, k), NOTHING);
        }
        x.body(5);
        x.keep(0, 0);
        int[] want = {5, -12, 5, 5, -12, 5, -12, -12};
        for (int k = 0; k <= 7; k++) {
            said.due("taken(0, " + k + ")", x.taken(0, k), want[k]);
        }
        for (int k : bad) {
            said.due("taken(0, " + k + ")", x.taken(0, k), BAD);
        }
        x.row(0, 0, 1);
        for (int k = 0; k <= 7; k++) {
            said.due("a row: taken(0, " + k + ")", x.taken(0, k), ANOTHER_KIND);
        }
    }

    private void count() {
        said.says(39, "How many: 0 PLACES, 1 bytes on THE TAPE, 2 changes that may be UNDONE, 3 BODIES,"
                + " 4 bodies that ran in the latest act() (all, kept or not). BAD.");
        LemonGate x = new LemonGate();
        for (int what = 0; what <= 4; what++) {
            said.due("at first, count(" + what + ")", x.count(what), 0);
        }
        int[] bad = {-1, 5, LEAST, MOST};
        for (int what : bad) {
            said.due("count(" + what + ")", x.count(what), BAD);
        }
        x.place();
        x.feed('1');
        x.feed('2');
        x.mend(0, 1);
        x.mend(0, 2);
        x.mend(0, 3);
        x.undo();
        x.body(7);
        x.body(7);
        x.body(7);
        x.act(0, 1, 0);
        int[] want = {1, 2, 2, 3, 8};
        for (int what = 0; what <= 4; what++) {
            said.due("count(" + what + ")", x.count(what), want[what]);
        }
        x.law(0);
        x.undo();
        x.act(9, 0, 0);
        int[] less = {1, 0, 1, 3, 0};
        for (int what = 0; what <= 4; what++) {
            said.due("count(" + what + ") then", x.count(what), less[what]);
        }
    }
}
