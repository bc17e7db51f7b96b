/** Promises 18 and 19: make, undercut. */
public final class MuchTest {
    private static final Due D = new Due();
    private static final int BAD = LemonGate.BAD;

    public static void main(String[] args) {
        makeByHand();
        makeByTrying();
        makeBad();
        undercut();
        undercutBad();
        D.end();
    }

    private static void made(LemonGate x, int nx, int c, long glasses, long above, long below) {
        D.due("make(" + nx + ", " + c + ", 0)", x.make(nx, c, 0), glasses);
        D.due("make(" + nx + ", " + c + ", 1)", x.make(nx, c, 1), above);
        D.due("make(" + nx + ", " + c + ", 2)", x.make(nx, c, 2), below);
    }

    private static void makeByHand() {
        LemonGate x = new LemonGate();
        made(x, 106, 4, 1, 1, 1);
        made(x, 106, 5, 0, 0, 1);
        made(x, 101, 0, 1, 5, 6);
        made(x, 206, 2, 2, 6, 1);
        made(x, 206, 3, 1, 9, 2);
        made(x, 0, 0, 0, 0, 1);
        made(x, 800, 0, 0, 0, 1);
        made(x, 812, 0, 8, 80, 1);
        made(x, 812, 9, 8, 8, 1);
        made(x, 812, 10, 0, 0, 1);
        made(x, 812, 99, 0, 0, 1);
        x.mend(3, 0);
        made(x, 812, 0, 0, 0, 1);
        x.mend(3, 50);
        made(x, 812, 49, 8, 8, 1);
        made(x, 801, 99, 0, 0, 1);
    }

    /** The gain of all rows of n passers, each of whom is one of twelve. */
    private static long gainOfAllRows(int n, int x, int price, int glasses) {
        long rows = 1, gain = 0;
        for (int i = 0; i < n; i++) {
            rows *= 12;
        }
        for (long row = 0; row < rows; row++) {
            int buyers = 0;
            long rest = row;
            for (int i = 0; i < n; i++) {
                buyers += rest % 12 < x ? 1 : 0;
                rest /= 12;
            }
            gain += (long) price * Math.min(buyers, glasses);
        }
        return gain;
    }

    private static void makeByTrying() {
        for (int n = 0; n <= 4; n++) {
            for (int x = 0; x <= 12; x++) {
                LemonGate gate = new LemonGate();
                gate.mend(3, 37);
                long rows = Math.round(Math.pow(12, n));
                for (int c = 0; c <= 40; c += 5) {
                    long most = 0, best = 0;
                    for (int glasses = 1; glasses <= n; glasses++) {
                        long gain = gainOfAllRows(n, x, 37, glasses) - rows * c * glasses;
                        if (gain > best) {
                            best = gain;
                            most = glasses;
                        }
                    }
                    long above = gate.make(100 * n + x, c, 1), below = gate.make(100 * n + x, c, 2);
                    D.due("glasses", gate.make(100 * n + x, c, 0), most);
                    D.due("the same fraction", above * rows, best * below);
                    D.due("lowest terms", java.math.BigInteger.valueOf(above).gcd(java.math.BigInteger.valueOf(below)).longValue(), 1);
                    D.due("below is above 0", below > 0 ? 1 : 0, 1);
                }
            }
        }
    }

    private static void makeBad() {
        LemonGate x = new LemonGate();
        int[][] bad = {{-1, 0, 0}, {-100, 0, 0}, {13, 0, 0}, {99, 0, 0}, {813, 0, 0}, {900, 0, 0}, {100, -1, 0}, {100, 100, 0},
            {100, 0, -1}, {100, 0, 3}, {Integer.MIN_VALUE, 0, 0}, {Integer.MAX_VALUE, 0, 0}};
        for (int[] b : bad) {
            D.due("make bad", x.make(b[0], b[1], b[2]), Long.MIN_VALUE);
        }
    }

    private static void cut(LemonGate x, int boy, int times, int price, int boys) {
        D.due("undercut(" + boy + ", 0)", x.undercut(boy, 0), times);
        D.due("undercut(" + boy + ", 1)", x.undercut(boy, 1), price);
        D.due("undercut(" + boy + ", 2)", x.undercut(boy, 2), boys);
    }

    private static void undercut() {
        LemonGate x = new LemonGate();
        x.mend(4, 30);
        // a glass costs the stand 1 penny, so it goes down to 1
        cut(x, 0, 9, 2, 1);
        cut(x, 2, 8, 2, 3);
        cut(x, 3, 8, 2, 3);
        cut(x, 9, 2, 8, 9);
        cut(x, 10, 0, 10, 30);
        cut(x, 50, 0, 10, 30);
        D.due("prices stay", x.of(3), 10);
        D.due("prices stay", x.of(4), 30);
        x.mend(2, 2);
        D.due("a glass costs 6", x.of(9), 6);
        cut(x, 0, 5, 6, 5);
        cut(x, 6, 4, 6, 7);
        x.mend(2, 1);
        cut(x, 5, 1, 10, 9);
        x.mend(0, 0);
        x.mend(1, 0);
        cut(x, 0, 10, 0, 1);
        x.mend(3, 0);
        cut(x, 0, 0, 0, 30);
        x.mend(3, 50);
        cut(x, 0, 50, 0, 1);
        x.mend(3, 1);
        x.mend(4, 50);
        cut(x, 0, 1, 1, 0);
    }

    private static void undercutBad() {
        LemonGate x = new LemonGate();
        D.due("he is not there", x.undercut(0, 0), LemonGate.STATE);
        int[][] bad = {{-1, 0}, {51, 0}, {0, -1}, {0, 3}, {Integer.MAX_VALUE, 0}, {0, Integer.MIN_VALUE}};
        for (int[] b : bad) {
            D.due("bad first", x.undercut(b[0], b[1]), BAD);
        }
        x.mend(4, 1);
        for (int[] b : bad) {
            D.due("bad", x.undercut(b[0], b[1]), BAD);
        }
        cut(x, 9, 2, 8, 9);
    }
}
