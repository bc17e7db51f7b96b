/** The edges of promises 12 to 17: day, told, best, where, judge, seeded. */
final class EdgesOfDays {
    private static final int BAD = LemonGate.BAD, NOT = LemonGate.NOT, STATE = LemonGate.STATE, VOID = LemonGate.VOID;
    private static final int LEAST = Integer.MIN_VALUE, MOST = Integer.MAX_VALUE;
    private static final int SUGAR = 1, GLASSES = 2, PRICE = 3, SOUR = 5, LITTLE = 6, JUGS = 7;
    private static final int[] SEEDS = {0, 1, -1, 99, 123456789, LEAST, MOST};

    private final Said said;

    EdgesOfDays(Said said) {
        this.said = said;
    }

    void all() {
        draws();
        jugs();
        jugsWithinQuarters();
        passers();
        littleOne();
        sour();
        totals();
        bestPrice();
        bestJugs();
        rowsOfPlaces();
        firstRow();
        toldDay();
        leastSeed();
        led();
        day();
        told();
        best();
        where();
        judge();
        seeded();
    }

    /** A place with a flow all day, passers who buy by a text, no little one. */
    private static LemonGate gate(int flow, String buys) {
        LemonGate x = new LemonGate();
        x.place();
        x.flow(0, 31, flow);
        x.mend(LITTLE, 0);
        Due.tell(x, 1, buys);
        return x;
    }

    /** SOLD, TAKEN, DRUNK, POURED, LEFT, MADE, COST, GAIN. */
    private void told(LemonGate x, String day, int... want) {
        for (int what = 0; what < want.length; what++) {
            said.due("told(" + what + ") of " + day, x.told(what), want[what]);
        }
    }

    private void draws() {
        said.says(0, "A DAY by a SEED (z = z * 1103515245 + 12345, an int, ahead of each draw; SEED at first)");
        for (int seed : SEEDS) {
            int first = Draws.of(seed, 1)[0];
            LemonGate x = gate(0, "q=0?" + first);
            x.flow(0, 0, 1);
            said.due("seed " + seed + ", a draw that is not below", x.day(seed), 0);
            Due.tell(x, 1, "q=0?" + (first + 1));
            said.due("seed " + seed + ", a draw that is below", x.day(seed), 1);
            x = gate(0, "0");
            x.mend(SOUR, 32);
            x.mend(JUGS, 9);
            for (int little = 0; little <= 12; little++) {
                x.mend(LITTLE, little);
                x.day(seed);
                said.due("seed " + seed + ", a draw a quarter", x.told(2), Draws.howManyBelow(Draws.of(seed, 32), little));
            }
        }
    }

    private void jugs() {
        said.says(0, ": the first JUG is made as the first QUARTER begins;"
                + " whenever one is empty, and JUGS allow it, at once the next one (AGE 0).");
        LemonGate x = gate(0, "12");
        x.mend(SOUR, 32);
        x.mend(JUGS, 1);
        x.flow(0, 0, 1);
        said.due("one in the first quarter", x.day(1), 1);
        x.mend(JUGS, 0);
        said.due("no jugs are allowed", x.day(1), 0);
        told(x, "no jugs", 0, 0, 0, 0, 0, 0, 0, 0);
        x.mend(GLASSES, 1);
        x.flow(0, 0, 3);
        int[][] many = {{1, 1, 0}, {2, 2, 0}, {3, 3, 0}, {4, 3, 0}, {9, 3, 0}};
        for (int[] m : many) {
            x.mend(JUGS, m[0]);
            x.mend(SOUR, 32);
            said.due(m[0] + " jugs of a glass, 3 passers", x.day(1), m[1]);
            // the one made for the third passer's empty jug is poured at last
            told(x, m[0] + " jugs", m[1], 10 * m[1], 0, m[0] > 3 ? 1 : 0, m[0] > 4 ? 1 : 0, Math.min(m[0], 5));
        }
        x = gate(0, "a=0?12");
        x.mend(SOUR, 32);
        x.mend(GLASSES, 2);
        x.flow(0, 0, 3);
        x.flow(0, 101, 3);
        said.due("the next one is of age 0", x.day(1), 3);
        said.due("in the first quarter", x.told(100), 3);
        Due.tell(x, 1, "q=0?12;a=1?12");
        said.due("and of age 1 in the next quarter", x.day(1), 4);
        said.due("the second of its passers finds one of age 0", x.told(101), 1);
    }

    private void jugsWithinQuarters() {
        LemonGate x = gate(0, "a=1?12");
        x.mend(SOUR, 32);
        x.mend(GLASSES, 2);
        x.flow(0, 101, 9);
        said.due("2 of age 1, then the next one of age 0", x.day(1), 2);
        x.flow(0, 202, 9);
        said.due("which is of age 1 a quarter later", x.day(1), 4);
        x = gate(0, "12");
        x.mend(GLASSES, 1);
        x.mend(SOUR, 1);
        x.mend(LITTLE, 12);
        x.mend(JUGS, 9);
        x.day(1);
        // one drunk, the next one poured, five times, but for the last one
        told(x, "a glass a jug, sour at once", 0, 0, 5, 4, 0, 9);
    }

    private void passers() {
        said.says(0, "QUARTER by QUARTER: 1 each passer of the PLACE (none, if nowhere) in turn: z;"
                + " it buys, if (z >>> 8) % 12 is below BUYS (by TASTE as it is) and a glass is left: PRICE is taken;");
        for (int seed : SEEDS) {
            for (int buys = 0; buys <= 12; buys++) {
                LemonGate x = gate(9, "q<2?" + buys);
                x.mend(SOUR, 32);
                said.due("seed " + seed + ", " + buys + " of twelve", x.day(seed), soldTo(Draws.of(seed, 19), buys));
                said.due("in quarter 0", x.told(100), Draws.howManyBelow(Draws.of(seed, 9), buys));
            }
        }
        LemonGate x = gate(9, "12");
        x.mend(JUGS, 1);
        said.due("no more than are left", x.day(1), 10);
        said.due("9 in quarter 0", x.told(100), 9);
        said.due("1 in quarter 1", x.told(101), 1);
        said.due("taken in quarter 1", x.told(201), 10);
        x.stand(-1, 2);
        x.mend(SOUR, 32);
        said.due("nowhere for three quarters", x.day(1), 10);
        said.due("none passes in quarter 2", x.told(102), 0);
        said.due("9 in quarter 3", x.told(103), 9);
        x.stand(-1, 31);
        said.due("nowhere all day", x.day(1), 0);
        LemonGate none = new LemonGate();
        Due.tell(none, 1, "12");
        said.due("at place 0, which has not come", none.day(1), 0);
        int[] prices = {0, 1, 50};
        x.stand(0, 31);
        for (int price : prices) {
            x.mend(PRICE, price);
            said.due("at " + price + " pence", x.day(1), 10);
            said.due("taken", x.told(1), 10 * price);
        }
        Due.tell(x, 0, "a=1?7");
        Due.tell(x, 1, "t=7?12");
        said.due("by taste as it is", x.day(1), 9);
        said.due("in quarter 1", x.told(101), 9);
    }

    // nine passers, the little one's draw, nine passers
    private static int soldTo(int[] drawn, int buys) {
        return Draws.howManyBelow(drawn, buys) - (drawn[9] < buys ? 1 : 0);
    }

    private void littleOne() {
        said.says(0, "2 z; if (z >>> 8) % 12 is below LITTLE and a glass is left, one is DRUNK;");
        LemonGate x = gate(0, "12");
        x.mend(SOUR, 32);
        x.mend(LITTLE, 12);
        int[][] jugs = {{0, 0}, {1, 10}, {3, 30}, {4, 32}};
        for (int[] j : jugs) {
            x.mend(JUGS, j[0]);
            x.day(5);
            said.due("all that is left of " + j[0] + " jugs", x.told(2), j[1]);
        }
        x.stand(-1, 31);
        x.day(5);
        said.due("nowhere too", x.told(2), 32);
        x.stand(0, 31);
        x.flow(0, 0, 9);
        x.mend(GLASSES, 9);
        x.mend(JUGS, 1);
        x.day(5);
        said.due("none is left behind the passers", x.told(2), 0);
        x.flow(0, 0, 8);
        x.day(5);
        said.due("one is left behind the passers", x.told(2), 1);
    }

    private void sour() {
        said.says(0, "3 a JUG whose AGE then becomes SOUR is poured away, if it has not been empty"
                + " (and the next one is made, if JUGS allow it); else its AGE is 1 more.");
        LemonGate x = gate(0, "12");
        int[][] days = {{32, 1, 10, 0, 1}, {32, 2, 10, 10, 2}, {31, 1, 10, 0, 1}, {31, 2, 10, 10, 2}, {16, 2, 20, 0, 2},
            {16, 3, 20, 10, 3}, {17, 3, 10, 10, 2}, {1, 9, 90, 0, 9}, {1, 1, 10, 0, 1}, {1, 0, 0, 0, 0}, {4, 9, 80, 10, 9},
            {4, 8, 80, 0, 8}, {5, 9, 60, 10, 7}};
        for (int[] d : days) {
            x.mend(SOUR, d[0]);
            x.mend(JUGS, d[1]);
            x.day(3);
            told(x, "SOUR " + d[0] + ", JUGS " + d[1], 0, 0, 0, d[2], d[3], d[4]);
        }
        x.flow(0, 1, 5);
        x.mend(SOUR, 2);
        x.mend(JUGS, 1);
        said.due("emptied in the quarter in which it were sour", x.day(3), 10);
        told(x, "emptied", 10, 100, 0, 0, 0, 1);
        x.mend(JUGS, 2);
        x.day(3);
        told(x, "the next one is sour two quarters behind", 10, 100, 0, 10, 0, 2);
        x.mend(GLASSES, 11);
        x.mend(JUGS, 1);
        x.day(3);
        told(x, "one glass is poured", 10, 100, 0, 1, 0, 1);
        x.flow(0, 31, 0);
        x.flow(0, 202, 1);
        x.mend(JUGS, 9);
        Due.tell(x, 1, "a=0?12");
        said.due("poured in quarter 1, of age 0 in quarter 2", x.day(3), 1);
    }

    private void totals() {
        said.says(0, "Told: SOLD, TAKEN, DRUNK, POURED (glasses), LEFT (in the JUG at the end), MADE (JUGS),"
                + " COST of these, GAIN: TAKEN less COST.");
        LemonGate x = gate(0, "12");
        x.flow(0, 2, 2);
        x.mend(LITTLE, 12);
        x.mend(SOUR, 4);
        x.mend(JUGS, 1);
        x.day(9);
        told(x, "6 sold, 4 drunk", 6, 60, 4, 0, 0, 1, 12, 48);
        x.mend(GLASSES, 20);
        x.day(9);
        told(x, "10 poured", 6, 60, 4, 10, 0, 1, 12, 48);
        x.mend(SOUR, 32);
        x.mend(JUGS, 2);
        x.day(9);
        told(x, "2 left", 6, 60, 32, 0, 2, 2, 24, 36);
        x.mend(PRICE, 0);
        x.day(9);
        told(x, "nothing taken", 6, 0, 32, 0, 2, 2, 24, -24);
    }

    private void bestPrice() {
        said.says(0, "BEST PRICE (0 .. 50): by which GAIN of a DAY by a SEED is greatest (of like ones the least).");
        LemonGate x = gate(1, "12");
        said.due("the dearest", x.best(1, 0), 50);
        String[] texts = {"0", "p=0?12", "p=1?12", "p=49?12", "p=50?12", "p<50?12", "p=20&q<6|p=10&q<12?12", "p=20&q<6|p=10&q<11?12"};
        int[] prices = {0, 0, 1, 49, 50, 49, 10, 20};
        for (int i = 0; i < texts.length; i++) {
            Due.tell(x, 1, texts[i]);
            said.due("by " + texts[i], x.best(1, 0), prices[i]);
        }
        x.mend(JUGS, 0);
        said.due("all are 0", x.best(1, 0), 0);
        x.mend(JUGS, 1);
        x.mend(GLASSES, 20);
        Due.tell(x, 1, "p=1&q<2?12");
        x.mend(0, 9);
        x.mend(SUGAR, 9);
        said.due("all are below 0", x.best(1, 0), 1);
        said.due("the price stays", x.of(PRICE), 10);
    }

    private void bestJugs() {
        said.says(0, "BEST JUGS (0 .. 9): likewise.");
        LemonGate x = gate(9, "12");
        x.mend(SOUR, 32);
        said.due("the most", x.best(1, 1), 9);
        x.flow(0, 731, 0);
        said.due("63 passers: 9, 8 and 7 jugs are alike", x.best(1, 1), 7);
        x.mend(PRICE, 1);
        said.due("each costs more than it brings", x.best(1, 1), 0);
        x.mend(0, 0);
        x.mend(SUGAR, 0);
        x.mend(PRICE, 10);
        x.flow(0, 231, 0);
        said.due("free ones: 18 by 2", x.best(1, 1), 2);
        x.mend(PRICE, 0);
        said.due("all alike", x.best(1, 1), 0);
        said.due("the jugs stay", x.of(JUGS), 3);
    }

    private static LemonGate withPlaces(int n) {
        LemonGate x = new LemonGate();
        for (int i = 0; i < n; i++) {
            x.place();
        }
        return x;
    }

    private void rowIs(LemonGate x, int ft, int sum, int... row) {
        said.due("where(" + ft + ", -1)", x.where(ft, -1), sum);
        for (int i = 0; i < row.length; i++) {
            said.due("where(" + ft + ", " + (ft / 100 + i) + ")", x.where(ft, ft / 100 + i), row[i]);
        }
    }

    private void rowsOfPlaces() {
        said.says(0, "WHERE: of all rows of PLACES or nowhere (-1) for QUARTERS from f to t in which no two unlike PLACES"
                + " are next to each other (a move takes a QUARTER nowhere) that by which most FLOW passes: the sum;");
        LemonGate x = withPlaces(2);
        x.flow(0, 1, 5);
        x.flow(1, 203, 5);
        rowIs(x, 3, 15, 0, -1, 1, 1);
        x.flow(0, 0, 9);
        x.flow(1, 303, 9);
        rowIs(x, 3, 23, 0, -1, 1, 1);
        rowIs(x, 0, 9, 0);
        rowIs(x, 1, 14, 0, 0);
        rowIs(x, 101, 5, 0);
        rowIs(x, 102, 5, -1, 1);
        rowIs(x, 303, 9, 1);
        x.flow(0, 31, 9);
        x.flow(1, 31, 9);
        said.due("all quarters of 9", x.where(31, -1), 288);
        said.due("the last quarter alone", x.where(3131, -1), 9);
        x.stand(-1, 31);
        said.due("wherever the stand is", x.where(31, -1), 288);
    }

    private void firstRow() {
        said.says(0, "the PLACE of a QUARTER in the first such row (-1 ahead of 0).");
        LemonGate x = withPlaces(4);
        rowIs(x, 31, 0, -1, -1);
        said.due("nowhere at last", x.where(31, 31), -1);
        x.flow(3, 505, 1);
        rowIs(x, 407, 1, -1, 3, -1, -1);
        x.flow(1, 505, 1);
        rowIs(x, 407, 1, -1, 1, -1, -1);
        x.flow(0, 505, 1);
        rowIs(x, 407, 1, -1, 0, -1, -1);
        x.flow(2, 707, 1);
        rowIs(x, 407, 2, -1, 0, -1, 2);
        x.flow(1, 606, 2);
        rowIs(x, 407, 3, -1, 1, 1, -1);
    }

    private static void put(LemonGate x, int n, int... sold) {
        x.row(0, 1, n);
        for (int i = 0; i < sold.length; i++) {
            x.put(0, i, sold[i]);
        }
    }

    private void toldDay() {
        said.says(0, "TOLD DAY: a ROW of shorts on a SHELF: glasses SOLD in QUARTERS 0 on: JUDGED by a SEED:"
                + " the first QUARTER that was not so; NOT (also if the ROW ends before; behind QUARTER 31 it does not count).");
        LemonGate x = gate(1, "q=31?12");
        x.mend(SOUR, 32);
        put(x, 0);
        said.due("a row of none", x.judge(0, 1), NOT);
        put(x, 1, 0);
        said.due("it ends before", x.judge(0, 1), NOT);
        put(x, 1, 1);
        said.due("wrong in quarter 0", x.judge(0, 1), 0);
        put(x, 31);
        said.due("it ends before quarter 31", x.judge(0, 1), NOT);
        put(x, 32);
        said.due("wrong in quarter 31", x.judge(0, 1), 31);
        x.put(0, 31, 1);
        said.due("right in quarter 31", x.judge(0, 1), NOT);
        put(x, 60);
        x.put(0, 31, 1);
        for (int i = 32; i < 60; i++) {
            x.put(0, i, i);
        }
        said.due("behind quarter 31", x.judge(0, 1), NOT);
        x.put(0, 30, 1);
        said.due("the first of two", x.judge(0, 1), 30);
        x.put(0, 2, -1);
        said.due("a number below 0", x.judge(0, 1), 2);
        x.put(0, 2, 65536);
        said.due("one that wraps to 0", x.judge(0, 1), 30);
        x = gate(1, "6");
        int[] lasts = {0, 7, 31};
        for (int seed : SEEDS) {
            x.day(seed);
            for (int last : lasts) {
                putTold(x, last + 1);
                said.due("seed " + seed + ", quarters to " + last, x.judge(0, seed), NOT);
                x.put(0, last, x.told(100 + last) + 1);
                said.due("seed " + seed + ", wrong in " + last, x.judge(0, seed), last);
            }
        }
    }

    /** A row of what the latest day sold in its first n quarters. */
    private static void putTold(LemonGate x, int n) {
        x.row(0, 1, n);
        for (int quarter = 0; quarter < n; quarter++) {
            x.put(0, quarter, x.told(100 + quarter));
        }
    }

    /** The least seed whose first draw is below a bound, or is not. */
    private static int leastSeed(int bound, boolean isBelow) {
        for (int seed = 0; seed <= 99; seed++) {
            if (Draws.of(seed, 1)[0] < bound == isBelow) {
                return seed;
            }
        }
        return NOT;
    }

    private void leastSeed() {
        said.says(0, "SEEDED: the least SEED 0 .. 99 by which JUDGED is NOT; NOT: none.");
        int[] seeds = {0, 1, 50, 98, 99, 100, -1};
        for (int seed : seeds) {
            // 96 passers of even odds: no two of these seeds sell alike
            LemonGate x = gate(3, "6");
            x.mend(GLASSES, 20);
            x.mend(JUGS, 9);
            x.day(seed);
            putTold(x, 32);
            said.due("the row of seed " + seed, x.seeded(0), seed >= 0 && seed <= 99 ? seed : NOT);
        }
        LemonGate x = gate(1, "0");
        put(x, 60);
        said.due("all of them", x.seeded(0), 0);
        x.put(0, 0, 1);
        said.due("none of them", x.seeded(0), NOT);
        put(x, 0);
        said.due("a row of none", x.seeded(0), 0);
        for (int buys = 0; buys <= 12; buys++) {
            x = gate(1, "q=0?" + buys);
            put(x, 1, 1);
            said.due("the least one that sells a glass", x.seeded(0), leastSeed(buys, true));
            put(x, 1, 0);
            said.due("the least one that sells none", x.seeded(0), leastSeed(buys, false));
        }
    }

    private void led() {
        said.says(0, "LED: of the latest DAY told by day(): glasses SOLD, TAKEN by QUARTER.");
        LemonGate x = gate(0, "12");
        said.due("none, told(100)", x.told(100), STATE);
        said.due("none, told(231)", x.told(231), STATE);
        put(x, 1, 0);
        x.best(1, 0);
        x.best(1, 1);
        x.judge(0, 1);
        x.seeded(0);
        said.due("told by others alone", x.told(100), STATE);
        x.flow(0, 0, 2);
        x.flow(0, 3131, 3);
        x.mend(SOUR, 32);
        x.day(1);
        x.flow(0, 31, 9);
        x.mend(PRICE, 50);
        x.best(1, 0);
        x.best(1, 1);
        x.judge(0, 1);
        x.seeded(0);
        int[][] led = {{100, 2}, {101, 0}, {130, 0}, {131, 3}, {200, 20}, {201, 0}, {230, 0}, {231, 30}};
        for (int[] l : led) {
            said.due("told(" + l[0] + ")", x.told(l[0]), l[1]);
        }
        x.day(1);
        said.due("the latest one", x.told(100), 9);
        said.due("the latest one", x.told(200), 450);
        said.due("no jugs at its end", x.told(131), 0);
    }

    private void day() {
        said.says(12, "A DAY by a SEED: SOLD.");
        LemonGate x = gate(4, "12");
        for (int seed : SEEDS) {
            said.due("day(" + seed + ")", x.day(seed), 30);
        }
        x.mend(JUGS, 0);
        said.due("without jugs", x.day(0), 0);
    }

    private void told() {
        said.says(13, "Of the latest DAY: 0 SOLD, 1 TAKEN, 2 DRUNK, 3 POURED, 4 LEFT, 5 MADE, 6 COST, 7 GAIN;"
                + " LED: 100 and a QUARTER: SOLD, 200 and it: TAKEN. VOID: BAD; STATE: there was none.");
        LemonGate x = gate(2, "12");
        int[] bad = {-1, 8, 99, 132, 199, 232, 300, LEAST, MOST};
        int[] good = {0, 1, 2, 3, 4, 5, 6, 7, 100, 131, 200, 231};
        for (int what : bad) {
            said.due("bad is named first: told(" + what + ")", x.told(what), VOID);
        }
        for (int what : good) {
            said.due("there was none: told(" + what + ")", x.told(what), STATE);
        }
        x.day(0);
        for (int what : bad) {
            said.due("told(" + what + ")", x.told(what), VOID);
        }
        // two in each of 15 quarters
        int[] want = {30, 300, 0, 0, 0, 3, 36, 264, 2, 0, 20, 0};
        for (int i = 0; i < good.length; i++) {
            said.due("told(" + good[i] + ")", x.told(good[i]), want[i]);
        }
    }

    private void best() {
        said.says(14, "BEST PRICE (what 0), BEST JUGS (1). BAD.");
        LemonGate x = gate(1, "p<31?12");
        int[] bad = {-1, 2, LEAST, MOST};
        for (int seed : SEEDS) {
            said.due("best(" + seed + ", 0)", x.best(seed, 0), 30);
            for (int what : bad) {
                said.due("best(" + seed + ", " + what + ")", x.best(seed, what), BAD);
            }
        }
        // 8 of each jug's 10 glasses, for 80 pence
        said.due("best(1, 1)", x.best(1, 1), 4);
    }

    private void where() {
        said.says(15, "WHERE: the sum (q -1), the PLACE of QUARTER q (ft as ever). VOID: BAD; STATE: no PLACES.");
        LemonGate x = new LemonGate();
        int[] spans = {-1, 32, 100, 3130, 3132, 3231, LEAST, MOST};
        int[][] off = {{31, -2}, {31, 32}, {31, LEAST}, {31, MOST}, {0, 1}, {3131, 30}, {506, 4}, {506, 7}};
        for (int round = 0; round < 2; round++) {
            for (int ft : spans) {
                said.due("where(" + ft + ", -1)", x.where(ft, -1), VOID);
            }
            for (int[] o : off) {
                said.due("where(" + o[0] + ", " + o[1] + ")", x.where(o[0], o[1]), VOID);
            }
            said.due("where(31, -1)", x.where(31, -1), round == 0 ? STATE : 0);
            said.due("where(31, 0)", x.where(31, 0), round == 0 ? STATE : -1);
            said.due("where(3131, 31)", x.where(3131, 31), round == 0 ? STATE : -1);
            x.place();
        }
        x.flow(1, 3131, 9);
        said.due("where(3131, 31)", x.where(3131, 31), 1);
        said.due("where(31, 31)", x.where(31, 31), 1);
        said.due("where(31, 30)", x.where(31, 30), -1);
    }

    /** The refusals that judge() and seeded() share. */
    private void refusedRow(LemonGate x, String call, java.util.function.IntUnaryOperator of) {
        int[] shelves = {-1, 6, LEAST, MOST};
        for (int shelf : shelves) {
            said.due(call + " of shelf " + shelf, of.applyAsInt(shelf), BAD);
        }
        said.due(call + " of nothing", of.applyAsInt(5), -11);
        int[] sorts = {0, 2, 3, 4};
        for (int sort : sorts) {
            x.row(5, sort, 2);
            said.due(call + " of a row of sort " + sort, of.applyAsInt(5), -12);
        }
        x.body(0);
        x.keep(5, 0);
        said.due(call + " of a glass", of.applyAsInt(5), -12);
        x.keep(5, -1);
        said.due(call + " of nothing again", of.applyAsInt(5), -11);
    }

    private void judge() {
        said.says(16, "JUDGED. BAD, -11, -12 (no ROW of shorts); NOT.");
        LemonGate x = new LemonGate();
        refusedRow(x, "judge", shelf -> x.judge(shelf, 0));
        x.row(5, 1, 2);
        said.due("as told", x.judge(5, 0), NOT);
        x.put(5, 1, 1);
        said.due("not as told", x.judge(5, 0), 1);
    }

    private void seeded() {
        said.says(17, "SEEDED. BAD, -11, -12; NOT.");
        LemonGate x = new LemonGate();
        refusedRow(x, "seeded", shelf -> x.seeded(shelf));
        x.row(5, 1, 2);
        said.due("as told", x.seeded(5), 0);
        x.put(5, 1, 1);
        said.due("by none", x.seeded(5), NOT);
    }
}
