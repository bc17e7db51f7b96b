/** The edges of promises 18 to 25: make, undercut, brings, minutes, share, slate, owes, wiped. */
final class EdgesOfPennies {
    private static final int BAD = LemonGate.BAD, STATE = LemonGate.STATE, VOID = LemonGate.VOID;
    private static final int LEAST = Integer.MIN_VALUE, MOST = Integer.MAX_VALUE;
    private static final int LEMONS = 0, SUGAR = 1, GLASSES = 2, PRICE = 3, BOYS = 4;

    private final Said said;

    EdgesOfPennies(Said said) {
        this.said = said;
    }

    void all() {
        makes();
        undercuts();
        sets();
        addedShares();
        slatesOfSix();
        wipedByFew();
        make();
        undercut();
        brings();
        minutes();
        share();
        slate();
        owes();
        wiped();
    }

    private void made(LemonGate x, int nx, int c, long glasses, long above, long below) {
        String call = "make(" + nx + ", " + c + ", ";
        said.due(call + "0)", x.make(nx, c, 0), glasses);
        said.due(call + "1)", x.make(nx, c, 1), above);
        said.due(call + "2)", x.make(nx, c, 2), below);
    }

    private void makes() {
        said.says(0, "MAKE: n passers (0 .. 8), each buying in x of twelve (0 .. 12): how many GLASSES (0 .. n) to make,"
                + " if one costs c pence and sells for PRICE, so that the mean gain is greatest (of like ones the fewest);"
                + " that gain: a fraction in lowest terms (0 by 1; the sign above).");
        LemonGate x = new LemonGate();
        made(x, 0, 0, 0, 0, 1);
        made(x, 12, 0, 0, 0, 1);
        made(x, 800, 0, 0, 0, 1);
        made(x, 812, 0, 8, 80, 1);
        made(x, 812, 9, 8, 8, 1);
        made(x, 100, 0, 0, 0, 1);
        made(x, 101, 0, 1, 5, 6);
        made(x, 111, 0, 1, 55, 6);
        made(x, 106, 4, 1, 1, 1);
        // a glass more brings just what it costs
        made(x, 106, 5, 0, 0, 1);
        made(x, 812, 10, 0, 0, 1);
        made(x, 206, 3, 1, 9, 2);
        // a second passer buys in a fourth of all cases: 10 by 4 less 2
        made(x, 206, 2, 2, 6, 1);
        // the first of 8 buys with 1 less (11 by 12) to the power 8
        long none = 214358881L, rows = 429981696L;
        made(x, 801, 4, 1, (10 * (rows - none) - 4 * rows) / 2, rows / 2);
        x.mend(PRICE, 20);
        made(x, 206, 5, 1, 10, 1);
        x.mend(PRICE, 0);
        made(x, 812, 0, 0, 0, 1);
        made(x, 812, 99, 0, 0, 1);
        x.mend(PRICE, 50);
        made(x, 812, 49, 8, 8, 1);
        made(x, 812, 50, 0, 0, 1);
    }

    private void cut(LemonGate x, int boy, int times, int price, int boys) {
        String call = "undercut(" + boy + ", ";
        said.due(call + "0)", x.undercut(boy, 0), times);
        said.due(call + "1)", x.undercut(boy, 1), price);
        said.due(call + "2)", x.undercut(boy, 2), boys);
    }

    private void undercuts() {
        said.says(0, "UNDERCUT: by turns, the BOY first, each asks 1 penny less than the other one asks,"
                + " as long as that is no less than what its glass costs (the STAND's: the JUG's cost by GLASSES, cut;"
                + " the BOY's told), from PRICE and the BOY's price (STATE: he is not there):"
                + " how many times it is done; PRICE, the BOY's at the end.");
        LemonGate x = new LemonGate();
        said.due("he is not there", x.undercut(0, 0), STATE);
        x.mend(BOYS, 50);
        // PRICE 10; a glass costs the stand 1 penny
        cut(x, 10, 0, 10, 50);
        cut(x, 9, 2, 8, 9);
        cut(x, 8, 2, 8, 9);
        cut(x, 7, 4, 6, 7);
        cut(x, 1, 9, 2, 1);
        cut(x, 0, 9, 2, 1);
        x.mend(BOYS, 1);
        cut(x, 9, 2, 8, 9);
        x.mend(GLASSES, 13);
        // 12 by 13, cut: 0
        cut(x, 0, 10, 0, 1);
        cut(x, 1, 10, 0, 1);
        cut(x, 2, 8, 2, 3);
        x.mend(GLASSES, 1);
        cut(x, 0, 1, 10, 9);
        x.mend(LEMONS, 2);
        x.mend(SUGAR, 2);
        cut(x, 0, 3, 8, 7);
        x.mend(SUGAR, 3);
        cut(x, 0, 1, 10, 9);
        x.mend(PRICE, 0);
        cut(x, 0, 0, 0, 1);
        x.mend(PRICE, 1);
        cut(x, 0, 1, 1, 0);
        x.mend(LEMONS, 0);
        x.mend(SUGAR, 0);
        x.mend(PRICE, 50);
        cut(x, 0, 50, 0, 1);
        cut(x, 50, 0, 50, 1);
        cut(x, 49, 2, 48, 49);
        said.due("the prices stay", x.of(PRICE), 50);
        said.due("the boy's stays", x.of(BOYS), 1);
    }

    private void shared(LemonGate x, int who, int how, int above, int below) {
        said.due("share(" + who + ", " + how + ", 0)", x.share(who, how, 0), above);
        said.due("share(" + who + ", " + how + ", 1)", x.share(who, how, 1), below);
    }

    private void sets() {
        said.says(0, "SHARES of three (0 .. 2): TOLD: what each set of them (bits 0 .. 7) brings alone"
                + " (0 .. 999; 0 at first; of nobody 0): ALIKE: a third of what all bring;");
        LemonGate x = new LemonGate();
        for (int set = 1; set <= 7; set++) {
            said.due("at first, set " + set, x.brings(set, 999), 0);
            said.due("set " + set, x.brings(set, 0), 999);
        }
        said.due("of nobody", x.brings(0, 0), BAD);
        for (int who = 0; who <= 2; who++) {
            shared(x, who, 0, 0, 1);
        }
        int[][] alls = {{1, 1, 3}, {2, 2, 3}, {3, 1, 1}, {998, 998, 3}, {999, 333, 1}};
        for (int[] a : alls) {
            x.brings(7, a[0]);
            for (int who = 0; who <= 2; who++) {
                shared(x, who, 0, a[1], a[2]);
            }
        }
        said.says(0, "BY TIME: by told minutes (0 .. 600 each; 0 at first) (0, if nobody has any);");
        for (int who = 0; who <= 2; who++) {
            shared(x, who, 1, 0, 1);
        }
        for (int who = 0; who <= 2; who++) {
            said.due("at first", x.minutes(who, 600), 0);
        }
        shared(x, 2, 1, 333, 1);
        x.minutes(0, 1);
        x.minutes(1, 0);
        shared(x, 0, 1, 999, 601);
        shared(x, 1, 1, 0, 1);
        shared(x, 2, 1, 599400, 601);
        x.minutes(2, 0);
        shared(x, 0, 1, 999, 1);
        shared(x, 2, 1, 0, 1);
        x.minutes(0, 0);
        shared(x, 0, 1, 0, 1);
    }

    private void addedShares() {
        said.says(0, "BY WHAT EACH ADDS: the mean over all orders of what one brings more as it comes to those ahead of it."
                + " As fractions in lowest terms.");
        // what one set brings is one's own, first of 2 of 6 orders; a pair's is the last one's, in 1 of 6
        int[][][] shares = {{{1, 3}, {-1, 6}, {-1, 6}}, {{-1, 6}, {1, 3}, {-1, 6}}, {{1, 6}, {1, 6}, {-1, 3}},
            {{-1, 6}, {-1, 6}, {1, 3}}, {{1, 6}, {-1, 3}, {1, 6}}, {{-1, 3}, {1, 6}, {1, 6}}, {{1, 3}, {1, 3}, {1, 3}}};
        for (int set = 1; set <= 7; set++) {
            LemonGate x = new LemonGate();
            for (int who = 0; who <= 2; who++) {
                shared(x, who, 2, 0, 1);
            }
            x.brings(set, 1);
            for (int who = 0; who <= 2; who++) {
                shared(x, who, 2, shares[set - 1][who][0], shares[set - 1][who][1]);
            }
            x.brings(set, 6);
            for (int who = 0; who <= 2; who++) {
                shared(x, who, 2, shares[set - 1][who][0] * 6 / shares[set - 1][who][1], 1);
            }
        }
        LemonGate x = new LemonGate();
        for (int set = 1; set <= 7; set++) {
            x.brings(set, 999);
        }
        shared(x, 1, 2, 333, 1);
        x.brings(2, 0);
        x.brings(3, 0);
        x.brings(6, 0);
        x.brings(7, 0);
        // the least there is: 0 first, twice less 999 in the middle and twice at last
        shared(x, 1, 2, -666, 1);
    }

    private void slatesOfSix() {
        said.says(0, "SLATES of 6 names: who owes whom how much (0 .. 999).");
        LemonGate x = new LemonGate();
        for (int a = 0; a <= 5; a++) {
            for (int b = 0; b <= 5; b++) {
                said.due("slate(" + (10 * a + b) + ")", x.slate(10 * a + b, 1 + 6 * a + b), a == b ? BAD : 0);
            }
        }
        for (int a = 0; a <= 5; a++) {
            for (int b = 0; b <= 5; b++) {
                said.due("slate(" + (10 * a + b) + ") again", x.slate(10 * a + b, 999), a == b ? BAD : 1 + 6 * a + b);
                said.due("slate(" + (10 * a + b) + ") at last", x.slate(10 * a + b, 0), a == b ? BAD : 999);
            }
        }
        said.says(0, "OWES: of a name what it owes less what it is owed.");
        for (int name = 0; name <= 5; name++) {
            said.due("owes(" + name + ")", x.owes(name), 0);
        }
        for (int other = 1; other <= 5; other++) {
            x.slate(other, 999);
        }
        said.due("the most", x.owes(0), 4995);
        said.due("one of those who are owed", x.owes(5), -999);
        for (int other = 1; other <= 5; other++) {
            x.slate(10 * other, 998);
        }
        said.due("owes(0)", x.owes(0), 5);
        said.due("owes(3)", x.owes(3), -1);
        for (int other = 1; other <= 5; other++) {
            x.slate(other, 0);
        }
        said.due("owes(0)", x.owes(0), -4990);
        said.due("owes(1)", x.owes(1), 998);
    }

    /** The fewest payments for slates, each told as ab, v. */
    private void wipedOf(int payments, int... slates) {
        LemonGate x = new LemonGate();
        for (int i = 0; i < slates.length; i += 2) {
            x.slate(slates[i], slates[i + 1]);
        }
        said.due("wiped() of " + java.util.Arrays.toString(slates), x.wiped(), payments);
        said.due("wiped() again", x.wiped(), payments);
    }

    private void wipedByFew() {
        said.says(0, "WIPED: the fewest payments (each from one to another one) by which nobody owes anything: how many.");
        wipedOf(0);
        wipedOf(0, 1, 999, 10, 999);
        wipedOf(0, 1, 7, 12, 7, 23, 7, 34, 7, 45, 7, 50, 7);
        wipedOf(1, 1, 1);
        wipedOf(1, 10, 999, 1, 998);
        wipedOf(1, 1, 5, 12, 5);
        wipedOf(1, 5, 9, 50, 8);
        wipedOf(2, 1, 5, 12, 4);
        wipedOf(2, 1, 5, 23, 5);
        wipedOf(3, 1, 5, 23, 5, 45, 5);
        wipedOf(3, 1, 1, 23, 2, 45, 3);
        wipedOf(5, 1, 1, 2, 1, 3, 1, 4, 1, 5, 1);
        wipedOf(5, 10, 1, 20, 2, 30, 4, 40, 8, 50, 16);
        wipedOf(4, 10, 1, 20, 2, 30, 4, 40, 8);
        // owing 3 and 4, owed 6 and 1: no fewer of them make up a sum of 0
        wipedOf(3, 2, 3, 12, 3, 15, 1);
        // owing 3, 5, 7 and owed 5, 3, 7, on five slates
        wipedOf(3, 5, 3, 15, 4, 13, 1, 23, 4, 24, 3);
        // owing 3, 5, 7 and owed 5, 5, 5
        wipedOf(4, 4, 3, 15, 3, 14, 2, 23, 5, 25, 2);
        // owing 2 and 3, owed 5; owing 4 and 7, owed 11: two payments each
        wipedOf(4, 2, 2, 12, 3, 35, 4, 45, 7);
        wipedOf(4, 5, 2, 12, 3, 32, 2, 35, 2, 45, 7);
    }

    private void make() {
        said.says(18, "MAKE (nx: 100 n and x; c 0 .. 99): how many (what 0); the gain above (1), below the line (2)."
                + " Long.MIN_VALUE: BAD.");
        LemonGate x = new LemonGate();
        int[][] bad = {{-1, 0, 0}, {-100, 0, 0}, {13, 0, 0}, {99, 0, 0}, {113, 0, 0}, {199, 0, 0}, {813, 0, 0}, {899, 0, 0},
            {900, 0, 0}, {912, 0, 0}, {100, -1, 0}, {100, 100, 0}, {100, 0, -1}, {100, 0, 3}, {LEAST, 0, 0}, {MOST, 0, 0},
            {100, LEAST, 0}, {100, MOST, 0}, {100, 0, LEAST}, {100, 0, MOST}};
        for (int[] b : bad) {
            said.due("make(" + b[0] + ", " + b[1] + ", " + b[2] + ")", x.make(b[0], b[1], b[2]), Long.MIN_VALUE);
        }
        made(x, 0, 99, 0, 0, 1);
        made(x, 812, 99, 0, 0, 1);
        made(x, 112, 0, 1, 10, 1);
    }

    private void undercut() {
        said.says(19, "UNDERCUT (boy 0 .. 50: what his glass costs): how many times (what 0), PRICE (1), the BOY's (2) at the end."
                + " BAD; STATE.");
        LemonGate x = new LemonGate();
        int[][] bad = {{-1, 0}, {51, 0}, {LEAST, 0}, {MOST, 0}, {0, -1}, {0, 3}, {0, LEAST}, {0, MOST}};
        for (int[] b : bad) {
            said.due("bad is named first: undercut(" + b[0] + ", " + b[1] + ")", x.undercut(b[0], b[1]), BAD);
        }
        for (int what = 0; what <= 2; what++) {
            said.due("undercut(0, " + what + ")", x.undercut(0, what), STATE);
            said.due("undercut(50, " + what + ")", x.undercut(50, what), STATE);
        }
        x.mend(BOYS, 1);
        for (int[] b : bad) {
            said.due("undercut(" + b[0] + ", " + b[1] + ")", x.undercut(b[0], b[1]), BAD);
        }
        cut(x, 50, 0, 10, 1);
        cut(x, 0, 9, 2, 1);
        x.mend(BOYS, 0);
        said.due("he is gone", x.undercut(0, 0), STATE);
    }

    private void brings() {
        said.says(20, "What a set of the three (bits 1 .. 7) brings becomes v: what it was. BAD.");
        LemonGate x = new LemonGate();
        for (int set = 1; set <= 7; set++) {
            said.due("brings(" + set + ", " + set + ")", x.brings(set, set), 0);
        }
        int[][] bad = {{0, 1}, {8, 1}, {-1, 1}, {LEAST, 1}, {MOST, 1}, {7, -1}, {7, 1000}, {7, LEAST}, {7, MOST}};
        for (int[] b : bad) {
            said.due("brings(" + b[0] + ", " + b[1] + ")", x.brings(b[0], b[1]), BAD);
        }
        for (int set = 1; set <= 7; set++) {
            said.due("brings(" + set + ", 999)", x.brings(set, 999), set);
            said.due("brings(" + set + ", 0)", x.brings(set, 0), 999);
        }
    }

    private void minutes() {
        said.says(21, "Minutes of one of the three become v: what they were. BAD.");
        LemonGate x = new LemonGate();
        for (int who = 0; who <= 2; who++) {
            said.due("minutes(" + who + ", " + (who + 1) + ")", x.minutes(who, who + 1), 0);
        }
        int[][] bad = {{-1, 1}, {3, 1}, {LEAST, 1}, {MOST, 1}, {2, -1}, {2, 601}, {2, LEAST}, {2, MOST}};
        for (int[] b : bad) {
            said.due("minutes(" + b[0] + ", " + b[1] + ")", x.minutes(b[0], b[1]), BAD);
        }
        for (int who = 0; who <= 2; who++) {
            said.due("minutes(" + who + ", 600)", x.minutes(who, 600), who + 1);
            said.due("minutes(" + who + ", 0)", x.minutes(who, 0), 600);
        }
    }

    private void share() {
        said.says(22, "SHARES: ALIKE (how 0), BY TIME (1), BY WHAT EACH ADDS (2) of one: part 0 above, 1 below the line. VOID: BAD.");
        LemonGate x = new LemonGate();
        int[][] bad = {{-1, 0, 0}, {3, 0, 0}, {LEAST, 0, 0}, {MOST, 0, 0}, {0, -1, 0}, {0, 3, 0}, {0, LEAST, 0}, {0, MOST, 0},
            {0, 0, -1}, {0, 0, 2}, {0, 0, LEAST}, {0, 0, MOST}};
        for (int[] b : bad) {
            said.due("share(" + b[0] + ", " + b[1] + ", " + b[2] + ")", x.share(b[0], b[1], b[2]), VOID);
        }
        x.brings(7, 10);
        x.brings(1, 4);
        x.minutes(0, 30);
        x.minutes(2, 20);
        shared(x, 0, 0, 10, 3);
        shared(x, 0, 1, 6, 1);
        shared(x, 2, 1, 4, 1);
        shared(x, 0, 2, 14, 3);
        shared(x, 2, 2, 8, 3);
    }

    private void slate() {
        said.says(23, "SLATES: what name a owes b (ab: 10 a and b; 0 .. 5) becomes v: what it was. BAD (one and the same).");
        LemonGate x = new LemonGate();
        said.due("slate(45, 7)", x.slate(45, 7), 0);
        said.due("slate(54, 8)", x.slate(54, 8), 0);
        int[] bad = {0, 11, 22, 33, 44, 55, 6, 9, 16, 56, 59, 60, 65, 66, 100, -1, -10, -45, LEAST, MOST};
        for (int ab : bad) {
            said.due("slate(" + ab + ", 1)", x.slate(ab, 1), BAD);
        }
        int[] off = {-1, 1000, LEAST, MOST};
        for (int v : off) {
            said.due("slate(45, " + v + ")", x.slate(45, v), BAD);
        }
        said.due("slate(45, 0)", x.slate(45, 0), 7);
        said.due("slate(54, 999)", x.slate(54, 999), 8);
        said.due("slate(50, 0)", x.slate(50, 0), 0);
        said.due("owes(5)", x.owes(5), 999);
        said.due("owes(4)", x.owes(4), -999);
    }

    private void owes() {
        said.says(24, "OWES of a name. VOID: BAD.");
        LemonGate x = new LemonGate();
        x.slate(5, 3);
        said.due("owes(0)", x.owes(0), 3);
        said.due("owes(5)", x.owes(5), -3);
        int[] bad = {-1, 6, LEAST, MOST};
        for (int name : bad) {
            said.due("owes(" + name + ")", x.owes(name), VOID);
        }
    }

    private void wiped() {
        said.says(25, "WIPED.");
        LemonGate x = new LemonGate();
        said.due("nobody owes", x.wiped(), 0);
        x.slate(1, 2);
        said.due("one owes one", x.wiped(), 1);
        said.due("the slates stay", x.slate(1, 0), 2);
        said.due("nobody owes again", x.wiped(), 0);
    }
}
