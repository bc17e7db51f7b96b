import java.lang.reflect.Array;
import java.util.Random;

/** Promises 33 to 39: keep, row, put, element, shift, taken, count; rows beside Java's own arrays. */
public final class ShelvesTest {
    private static final Due D = new Due();
    private static final int BAD = LemonGate.BAD;
    private static final long NO = Long.MIN_VALUE;
    private static final Class<?>[] SORTS = {byte.class, short.class, int.class, long.class, boolean.class};

    public static void main(String[] args) {
        keep();
        row();
        putElement();
        lowestBits();
        shift();
        taken();
        count();
        byJava();
        D.end();
    }

    private static void keep() {
        LemonGate x = new LemonGate();
        D.due("no such body", x.keep(0, 0), BAD);
        x.body(3);
        D.due("keep", x.keep(0, 0), 1);
        D.due("taken", x.taken(0, 0), 3);
        int[][] bad = {{-1, 0}, {6, 0}, {0, -2}, {0, 1}, {0, 50}, {Integer.MAX_VALUE, 0}, {0, Integer.MIN_VALUE}};
        for (int[] b : bad) {
            D.due("keep bad", x.keep(b[0], b[1]), BAD);
        }
        D.due("it stays", x.taken(0, 0), 3);
        D.due("keep nothing", x.keep(0, -1), 1);
        D.due("nothing", x.taken(0, 0), -11);
        x.row(0, 2, 4);
        D.due("nothing for a row", x.keep(0, -1), 1);
        D.due("nothing", x.put(0, 0, 1), -11);
        x.row(0, 2, 4);
        D.due("a glass for a row", x.keep(0, 0), 1);
        D.due("a glass is no row", x.put(0, 0, 1), -12);
        D.due("the last shelf", x.keep(5, 0), 1);
    }

    private static void row() {
        LemonGate x = new LemonGate();
        int[][] bad = {{-1, 0, 0}, {6, 0, 0}, {0, -1, 0}, {0, 5, 0}, {0, 0, 61}, {0, 0, Integer.MAX_VALUE}, {6, 0, -1}, {0, 5, -1}};
        for (int[] b : bad) {
            D.due("row bad", x.row(b[0], b[1], b[2]), BAD);
        }
        D.due("below 0", x.row(0, 0, -1), -14);
        D.due("far below 0", x.row(0, 0, Integer.MIN_VALUE), -14);
        D.due("nothing came", x.put(0, 0, 1), -11);
        D.due("of 60", x.row(0, 0, 60), 1);
        x.put(0, 59, 9);
        D.due("bad", x.row(0, 0, 61), BAD);
        D.due("below 0", x.row(0, 0, -1), -14);
        D.due("it stays", x.element(0, 59), 9);
        D.due("a new one", x.row(0, 0, 60), 1);
        D.due("is of 0", x.element(0, 59), 0);
        D.due("of 0", x.row(0, 0, 0), 1);
        D.due("no element", x.put(0, 0, 1), -13);
    }

    private static void putElement() {
        LemonGate x = new LemonGate();
        D.due("put(-1)", x.put(-1, 0, 1), BAD);
        D.due("put(6)", x.put(6, 0, 1), BAD);
        D.due("element(-1)", x.element(-1, 0), NO);
        D.due("element(6)", x.element(6, 0), NO);
        D.due("nothing", x.put(1, -1, 1), -11);
        D.due("nothing", x.element(1, 0), NO);
        x.body(0);
        x.keep(1, 0);
        D.due("a glass", x.put(1, -1, 1), -12);
        D.due("a glass", x.element(1, 0), NO);
        x.row(1, 3, 2);
        for (int i : new int[] {-1, 2, 60, Integer.MIN_VALUE, Integer.MAX_VALUE}) {
            D.due("put(1, " + i + ")", x.put(1, i, 1), -13);
            D.due("element(1, " + i + ")", x.element(1, i), NO);
        }
        D.due("put", x.put(1, 1, -5), 1);
        D.due("element", x.element(1, 1), -5);
        D.due("element", x.element(1, 0), 0);
    }

    private static void lowestBits() {
        long[] told = {0, 1, -1, 127, 128, 255, 256, 32767, 32768, 65536, 1L << 31, 1L << 32, Long.MAX_VALUE, NO, 0x123456789abcdef0L};
        LemonGate x = new LemonGate();
        for (long v : told) {
            long[] want = {(byte) v, (short) v, (int) v, v, v != 0 ? 1 : 0};
            for (int sort = 0; sort < 5; sort++) {
                x.row(3, sort, 1);
                D.due("put", x.put(3, 0, v), 1);
                D.due("sort " + sort + " of " + v, x.element(3, 0), want[sort]);
            }
        }
    }

    private static void shift() {
        LemonGate x = new LemonGate();
        D.due("shift(-1)", x.shift(-1, 0, 0, 0, 0), BAD);
        D.due("shift to 6", x.shift(0, 0, 6, 0, 0), BAD);
        x.row(0, 2, 5);
        D.due("to nothing", x.shift(0, 0, 1, 0, 0), -11);
        D.due("from nothing", x.shift(1, 0, 0, 0, 0), -11);
        x.body(0);
        x.keep(2, 0);
        D.due("a glass and nothing", x.shift(2, 0, 1, 0, 0), -11);
        D.due("nothing and a glass", x.shift(1, 0, 2, 0, 0), -11);
        D.due("from a glass", x.shift(2, 0, 0, 0, 0), -12);
        D.due("to a glass", x.shift(0, 0, 2, 0, 0), -12);
        D.due("from a glass to a glass", x.shift(2, 0, 2, 0, 0), -12);
        x.row(1, 3, 4);
        D.due("unlike sorts", x.shift(0, 0, 1, 0, 9), -12);
        x.row(1, 2, 4);
        int[][] bad = {{-1, 0, 1}, {0, -1, 1}, {0, 0, -1}, {5, 0, 1}, {0, 4, 1}, {0, 0, 5}, {1, 0, 5}, {6, 0, 0}, {0, 5, 0},
            {1, 0, Integer.MAX_VALUE}, {Integer.MAX_VALUE, 0, 1}, {0, Integer.MIN_VALUE, 1}, {0, 0, Integer.MIN_VALUE}};
        for (int[] b : bad) {
            D.due("shift bad", x.shift(0, b[0], 1, b[1], b[2]), -13);
        }
        for (int i = 0; i < 5; i++) {
            x.put(0, i, i + 1);
        }
        D.due("shift", x.shift(0, 1, 1, 0, 4), 4);
        D.due("element", x.element(1, 0), 2);
        D.due("element", x.element(1, 3), 5);
        D.due("none, at the ends", x.shift(0, 5, 1, 4, 0), 0);
        D.due("up in itself", x.shift(0, 0, 0, 1, 4), 4);
        long[] up = {1, 1, 2, 3, 4};
        for (int i = 0; i < 5; i++) {
            D.due("element", x.element(0, i), up[i]);
        }
        D.due("down in itself", x.shift(0, 2, 0, 0, 3), 3);
        long[] down = {2, 3, 4, 3, 4};
        for (int i = 0; i < 5; i++) {
            D.due("element", x.element(0, i), down[i]);
        }
    }

    private static void taken() {
        LemonGate x = new LemonGate();
        int[][] under = {{0}, {1, 0}, {2, 0}, {3, 2, 0}, {4, 1, 0}, {5, 3, 2, 0}, {6, 0}, {7, 4, 1, 0}};
        D.due("taken(-1)", x.taken(-1, 0), BAD);
        D.due("taken(6)", x.taken(6, 0), BAD);
        D.due("taken k -1", x.taken(0, -1), BAD);
        D.due("taken k 8", x.taken(0, 8), BAD);
        D.due("nothing", x.taken(0, 0), -11);
        x.row(0, 0, 1);
        D.due("a row", x.taken(0, 0), -12);
        x.body(0);
        x.keep(0, 0);
        x.row(0, 0, 1);
        D.due("a row for a glass", x.taken(0, 0), -12);
        x = new LemonGate();
        for (int kind = 0; kind < 8; kind++) {
            x.body(kind);
            x.keep(0, kind);
            for (int k = 0; k < 8; k++) {
                int want = -12;
                for (int u : under[kind]) {
                    want = u == k ? kind : want;
                }
                D.due(kind + " taken for " + k, x.taken(0, k), want);
            }
        }
    }

    private static void count() {
        LemonGate x = new LemonGate();
        x.place();
        x.place();
        x.feed('1');
        x.feed('2');
        x.feed('3');
        x.mend(0, 1);
        x.body(7);
        x.body(7);
        x.body(7);
        x.body(7);
        x.act(0, 3, 1);
        int[] want = {2, 3, 1, 4, 14};
        for (int what = 0; what < 5; what++) {
            D.due("count(" + what + ")", x.count(what), want[what]);
        }
        D.due("count(-1)", x.count(-1), BAD);
        D.due("count(5)", x.count(5), BAD);
        D.due("count(max)", x.count(Integer.MAX_VALUE), BAD);
    }

    private static long read(Object row, int i) {
        if (row instanceof boolean[]) {
            return Array.getBoolean(row, i) ? 1 : 0;
        }
        return Array.getLong(row, i);
    }

    private static void write(Object row, int i, long v) {
        if (row instanceof byte[]) {
            ((byte[]) row)[i] = (byte) v;
        } else if (row instanceof short[]) {
            ((short[]) row)[i] = (short) v;
        } else if (row instanceof int[]) {
            ((int[]) row)[i] = (int) v;
        } else if (row instanceof long[]) {
            ((long[]) row)[i] = v;
        } else {
            ((boolean[]) row)[i] = v != 0;
        }
    }

    private static int shifted(Object from, int i, Object to, int j, int n) {
        try {
            System.arraycopy(from, i, to, j, n);
            return n;
        } catch (NullPointerException e) {
            return -11;
        } catch (ArrayStoreException e) {
            return -12;
        } catch (IndexOutOfBoundsException e) {
            return -13;
        }
    }

    private static void byJava() {
        Random random = new Random(21);
        for (int run = 0; run < 60; run++) {
            LemonGate x = new LemonGate();
            Object[] rows = new Object[6];
            for (int call = 0; call < 400; call++) {
                int shelf = random.nextInt(6), other = random.nextInt(6), i = random.nextInt(9) - 1, j = random.nextInt(9) - 1;
                int kind = random.nextInt(8);
                if (kind == 0) {
                    int sort = random.nextInt(run % 2 == 0 ? 5 : 2), n = random.nextInt(10);
                    rows[shelf] = Array.newInstance(SORTS[sort], n);
                    D.due("row", x.row(shelf, sort, n), 1);
                } else if (kind < 4) {
                    long v = random.nextLong() >> random.nextInt(64);
                    boolean there = rows[shelf] != null && i >= 0 && i < Array.getLength(rows[shelf]);
                    D.due("put", x.put(shelf, i, v), rows[shelf] == null ? -11 : there ? 1 : -13);
                    if (there) {
                        write(rows[shelf], i, v);
                    }
                } else {
                    int n = random.nextInt(7) - 1;
                    D.due("shift", x.shift(shelf, i, other, j, n), shifted(rows[shelf], i, rows[other], j, n));
                }
                for (int at = -1; at < 10; at++) {
                    boolean there = rows[other] != null && at >= 0 && at < Array.getLength(rows[other]);
                    D.due("element", x.element(other, at), there ? read(rows[other], at) : NO);
                }
            }
        }
    }
}
