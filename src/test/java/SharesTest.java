/** Promises 20 to 25: brings, minutes, share, slate, owes, wiped. */
public final class SharesTest {
    private static final Due D = new Due();
    private static final int BAD = LemonGate.BAD, VOID = LemonGate.VOID;

    public static void main(String[] args) {
        brings();
        minutes();
        shares();
        sharesInAllOrders();
        slates();
        wiped();
        D.end();
    }

    private static void brings() {
        LemonGate x = new LemonGate();
        for (int set = 1; set < 8; set++) {
            D.due("brings", x.brings(set, 999), 0);
            D.due("brings", x.brings(set, set), 999);
            D.due("brings", x.brings(set, set), set);
        }
        int[][] bad = {{0, 1}, {8, 1}, {-1, 1}, {1, -1}, {1, 1000}, {Integer.MIN_VALUE, 1}, {1, Integer.MAX_VALUE}};
        for (int[] b : bad) {
            D.due("brings bad", x.brings(b[0], b[1]), BAD);
        }
        D.due("it stays", x.brings(1, 0), 1);
    }

    private static void minutes() {
        LemonGate x = new LemonGate();
        for (int who = 0; who < 3; who++) {
            D.due("minutes", x.minutes(who, 600), 0);
            D.due("minutes", x.minutes(who, who), 600);
        }
        int[][] bad = {{-1, 1}, {3, 1}, {0, -1}, {0, 601}, {Integer.MAX_VALUE, 1}};
        for (int[] b : bad) {
            D.due("minutes bad", x.minutes(b[0], b[1]), BAD);
        }
        D.due("it stays", x.minutes(2, 0), 2);
    }

    private static void shared(LemonGate x, int who, int how, int above, int below) {
        D.due("share(" + who + ", " + how + ", 0)", x.share(who, how, 0), above);
        D.due("share(" + who + ", " + how + ", 1)", x.share(who, how, 1), below);
    }

    private static void shares() {
        LemonGate x = new LemonGate();
        for (int who = 0; who < 3; who++) {
            for (int how = 0; how < 3; how++) {
                shared(x, who, how, 0, 1);
            }
        }
        x.brings(7, 100);
        shared(x, 1, 0, 100, 3);
        shared(x, 1, 1, 0, 1);
        shared(x, 1, 2, 100, 3);
        x.minutes(0, 30);
        x.minutes(1, 40);
        x.minutes(2, 50);
        shared(x, 0, 1, 25, 1);
        shared(x, 1, 1, 100, 3);
        shared(x, 2, 1, 125, 3);
        x.minutes(0, 0);
        x.minutes(1, 0);
        x.minutes(2, 1);
        shared(x, 2, 1, 100, 1);
        shared(x, 0, 1, 0, 1);
        x.brings(7, 999);
        x.minutes(0, 600);
        x.minutes(1, 600);
        x.minutes(2, 0);
        shared(x, 0, 1, 999, 2);
        shared(x, 2, 1, 0, 1);
        shared(x, 2, 0, 333, 1);
        x.brings(7, 0);
        x.brings(3, 1);
        shared(x, 0, 2, 1, 6);
        shared(x, 1, 2, 1, 6);
        shared(x, 2, 2, -1, 3);
        int[][] bad = {{-1, 0, 0}, {3, 0, 0}, {0, -1, 0}, {0, 3, 0}, {0, 0, -1}, {0, 0, 2}, {Integer.MIN_VALUE, 0, 0}};
        for (int[] b : bad) {
            D.due("share bad", x.share(b[0], b[1], b[2]), VOID);
        }
    }

    private static void sharesInAllOrders() {
        int[][] orders = {{0, 1, 2}, {0, 2, 1}, {1, 0, 2}, {1, 2, 0}, {2, 0, 1}, {2, 1, 0}};
        java.util.Random random = new java.util.Random(4);
        for (int run = 0; run < 200; run++) {
            LemonGate x = new LemonGate();
            int[] brought = new int[8], added = new int[3];
            for (int set = 1; set < 8; set++) {
                brought[set] = random.nextInt(run < 100 ? 1000 : 12);
                x.brings(set, brought[set]);
            }
            for (int[] order : orders) {
                int there = 0;
                for (int who : order) {
                    added[who] += brought[there | 1 << who] - brought[there];
                    there |= 1 << who;
                }
            }
            for (int who = 0; who < 3; who++) {
                int g = java.math.BigInteger.valueOf(added[who]).gcd(java.math.BigInteger.valueOf(6)).intValue();
                shared(x, who, 2, added[who] / g, 6 / g);
            }
        }
    }

    private static void slates() {
        LemonGate x = new LemonGate();
        int[][] bad = {{0, 1}, {11, 1}, {55, 1}, {6, 1}, {60, 1}, {56, 1}, {-1, 1}, {-10, 1}, {1, -1}, {1, 1000}, {100, 1},
            {Integer.MIN_VALUE, 1}, {Integer.MAX_VALUE, 1}};
        for (int[] b : bad) {
            D.due("slate bad " + b[0], x.slate(b[0], b[1]), BAD);
        }
        D.due("wiped", x.wiped(), 0);
        D.due("slate(1, 30)", x.slate(1, 30), 0);
        D.due("slate(1, 20)", x.slate(1, 20), 30);
        D.due("slate(1, 0)", x.slate(1, 0), 20);
        D.due("slate(1, 20)", x.slate(1, 20), 0);
        D.due("slate(10, 50)", x.slate(10, 50), 0);
        D.due("slate(52, 999)", x.slate(52, 999), 0);
        int[] owed = {-30, 30, -999, 0, 0, 999};
        for (int name = 0; name < 6; name++) {
            D.due("owes(" + name + ")", x.owes(name), owed[name]);
        }
        D.due("owes(-1)", x.owes(-1), VOID);
        D.due("owes(6)", x.owes(6), VOID);
        D.due("owes(max)", x.owes(Integer.MAX_VALUE), VOID);
        D.due("wiped", x.wiped(), 2);
    }

    /** The fewest payments by trying: the first one who owes pays, or is paid by, each other one. */
    private static int fewest(int[] balances, int from) {
        int first = from;
        while (first < 6 && balances[first] == 0) {
            first++;
        }
        if (first == 6) {
            return 0;
        }
        int least = 99, mine = balances[first];
        for (int other = first + 1; other < 6; other++) {
            if ((long) balances[other] * mine < 0) {
                balances[other] += mine;
                least = Math.min(least, 1 + fewest(balances, first + 1));
                balances[other] -= mine;
            }
        }
        return least;
    }

    private static void wiped() {
        java.util.Random random = new java.util.Random(7);
        int[] seen = new int[6];
        for (int run = 0; run < 3000; run++) {
            LemonGate x = new LemonGate();
            for (int n = random.nextInt(12); n > 0; n--) {
                x.slate(random.nextInt(60), 1 + random.nextInt(run % 2 == 0 ? 3 : 999));
            }
            int[] balances = new int[6];
            for (int name = 0; name < 6; name++) {
                balances[name] = x.owes(name);
            }
            int want = fewest(balances, 0);
            seen[want]++;
            D.due("wiped", x.wiped(), want);
            D.due("wiped again", x.wiped(), want);
        }
        for (int n = 0; n < 6; n++) {
            D.due("some run needs " + n, seen[n] > 0 ? 1 : 0, 1);
        }
        LemonGate x = new LemonGate();
        x.slate(3, 2);
        x.slate(4, 3);
        x.slate(15, 5);
        x.slate(25, 5);
        x.slate(2, 5);
        D.due("a circle and some", x.wiped(), fewest(new int[] {10, 5, 0, -2, -3, -10}, 0));
    }
}
