/** Promises 12 to 17: day, told, best, where, judge, seeded. */
public final class DaysTest {
    private static final Due D = new Due();
    private static final int BAD = LemonGate.BAD, NOT = LemonGate.NOT, STATE = LemonGate.STATE, VOID = LemonGate.VOID;

    public static void main(String[] args) {
        dayOfAllBuyers();
        sourJugs();
        littleOne();
        draws();
        tellsTheLatest();
        best();
        bestOfLikeOnes();
        where();
        firstOfLikeRows();
        judge();
        seeded();
        D.end();
    }

    /** A place with a flow, all of whom buy or nobody does, and no little one. */
    private static LemonGate gate(int flow, int buys) {
        LemonGate x = new LemonGate();
        x.place();
        x.flow(0, 31, flow);
        x.mend(6, 0);
        Due.tell(x, 1, buys + "");
        return x;
    }

    private static void totals(LemonGate x, int... want) {
        for (int what = 0; what < want.length; what++) {
            D.due("told(" + what + ")", x.told(what), want[what]);
        }
    }

    private static void dayOfAllBuyers() {
        LemonGate x = gate(4, 12);
        D.due("day", x.day(1), 30);
        totals(x, 30, 300, 0, 0, 0, 3, 36, 264);
        D.due("quarter 6", x.told(106), 4);
        D.due("quarter 7", x.told(107), 2);
        D.due("quarter 8", x.told(108), 0);
        D.due("quarter 7 takes", x.told(207), 20);
        x.stand(-1, 103);
        D.due("three quarters nowhere", x.day(1), 30);
        D.due("quarter 0", x.told(100), 4);
        D.due("quarter 1", x.told(101), 0);
        D.due("quarter 3", x.told(103), 0);
        D.due("quarter 4", x.told(104), 4);
        x.mend(7, 9);
        x.mend(5, 32);
        D.due("nine jugs", x.day(1), 90);
        totals(x, 90, 900, 0, 0, 0, 9, 108, 792);
        x.mend(7, 0);
        D.due("no jug", x.day(1), 0);
        totals(x, 0, 0, 0, 0, 0, 0, 0, 0);
        x = gate(4, 0);
        D.due("nobody buys", x.day(1), 0);
        totals(x, 0, 0, 0, 30, 0, 3, 36, -36);
        x = gate(9, 12);
        x.mend(2, 1);
        x.mend(7, 9);
        D.due("a jug a glass", x.day(1), 9);
        totals(x, 9, 90, 0, 0, 0, 9, 108, -18);
        D.due("all in quarter 0", x.told(100), 9);
        x.mend(7, 5);
        D.due("five of them", x.day(1), 5);
        D.due("all in quarter 0", x.told(200), 50);
    }

    private static void sourJugs() {
        LemonGate x = gate(0, 12);
        x.mend(5, 1);
        D.due("a jug a quarter", x.day(7), 0);
        totals(x, 0, 0, 0, 30, 0, 3, 36, -36);
        x.mend(5, 32);
        D.due("sour as the day ends", x.day(7), 0);
        totals(x, 0, 0, 0, 10, 10, 2, 24, -24);
        x.mend(5, 31);
        D.due("sour a quarter ahead", x.day(7), 0);
        totals(x, 0, 0, 0, 10, 10, 2, 24, -24);
        x.mend(5, 11);
        D.due("sour at 11, at 22, not at 33", x.day(7), 0);
        totals(x, 0, 0, 0, 20, 10, 3, 36, -36);
        x.mend(7, 1);
        D.due("one jug", x.day(7), 0);
        totals(x, 0, 0, 0, 10, 0, 1, 12, -12);
        x.mend(5, 2);
        x.flow(0, 0, 3);
        x.flow(0, 202, 3);
        D.due("nothing left in quarter 2", x.day(7), 3);
        totals(x, 3, 30, 0, 7, 0, 1, 12, 18);
        x.mend(7, 2);
        D.due("the next jug in quarter 2", x.day(7), 6);
        totals(x, 6, 60, 0, 14, 0, 2, 24, 36);
        // a jug made within a quarter is of age 0 then, and 1 behind it
        x = gate(0, 12);
        x.flow(0, 101, 9);
        x.mend(2, 5);
        x.mend(5, 2);
        x.mend(7, 2);
        D.due("9 of quarter 1", x.day(7), 9);
        totals(x, 9, 90, 0, 1, 0, 2, 24, 66);
        D.due("by age", Due.tell(x, 1, "a=0?12"), 1);
        D.due("none at age 1", x.day(7), 0);
        x.flow(0, 0, 6);
        D.due("6 at age 0, the next jug is of age 0 too", x.day(7), 6);
        D.due("none at age 1", x.told(101), 0);
        totals(x, 6, 60, 0, 4, 0, 2, 24, 36);
    }

    private static void littleOne() {
        LemonGate x = gate(0, 12);
        x.mend(6, 12);
        D.due("a glass a quarter", x.day(3), 0);
        totals(x, 0, 0, 24, 6, 0, 3, 36, -36);
        x.mend(5, 32);
        totals(x, 0, 0, 24, 6, 0, 3, 36, -36);
        D.due("no longer sour", x.day(3), 0);
        totals(x, 0, 0, 30, 0, 0, 3, 36, -36);
        x.mend(7, 4);
        D.due("8 left", x.day(3), 0);
        totals(x, 0, 0, 32, 0, 8, 4, 48, -48);
        D.due("places far away", x.stand(-1, 31), 32);
        D.due("the little one drinks there too", x.day(3), 0);
        totals(x, 0, 0, 32, 0, 8, 4, 48, -48);
    }

    private static void draws() {
        for (int seed : new int[] {0, 1, 5, -1, Integer.MIN_VALUE, Integer.MAX_VALUE, 123456789}) {
            for (int buys = 0; buys <= 12; buys++) {
                LemonGate x = gate(2, buys);
                x.mend(2, 20);
                x.mend(7, 9);
                x.mend(5, 32);
                x.mend(6, buys);
                x.day(seed);
                int[] drawn = Draws.of(seed, 96);
                int sold = 0, drunk = 0;
                for (int quarter = 0; quarter < 32; quarter++) {
                    int here = (drawn[3 * quarter] < buys ? 1 : 0) + (drawn[3 * quarter + 1] < buys ? 1 : 0);
                    D.due("sold in quarter " + quarter, x.told(100 + quarter), here);
                    sold += here;
                    drunk += drawn[3 * quarter + 2] < buys ? 1 : 0;
                }
                D.due("sold", x.told(0), sold);
                D.due("drunk", x.told(2), drunk);
            }
        }
    }

    private static void tellsTheLatest() {
        LemonGate x = gate(4, 12);
        D.due("none yet", x.told(100), STATE);
        D.due("none yet", x.told(231), STATE);
        int[] bad = {-1, 8, 99, 132, 199, 232, Integer.MIN_VALUE, Integer.MAX_VALUE};
        for (int what : bad) {
            D.due("told(" + what + ")", x.told(what), VOID);
        }
        x.best(1, 0);
        x.row(0, 1, 3);
        x.judge(0, 2);
        x.seeded(0);
        D.due("still none", x.told(0), STATE);
        x.day(1);
        x.mend(3, 50);
        x.mend(0, 9);
        x.best(1, 0);
        x.best(1, 1);
        x.judge(0, 2);
        x.seeded(0);
        totals(x, 30, 300, 0, 0, 0, 3, 36, 264);
        D.due("as it was taken", x.told(200), 40);
        for (int what : bad) {
            D.due("told(" + what + ")", x.told(what), VOID);
        }
    }

    private static void best() {
        LemonGate x = gate(1, 12);
        D.due("all buy at any price", x.best(4, 0), 50);
        D.due("all buy up to 17", Due.tell(x, 1, "p<18?12"), 1);
        D.due("best price", x.best(4, 0), 17);
        D.due("the price stays", x.of(3), 10);
        D.due("p in the taste too", Due.tell(x, 0, "p<9?1"), 1);
        D.due("by taste", Due.tell(x, 1, "t*12"), 1);
        D.due("best price", x.best(4, 0), 8);
        D.due("best jugs", x.best(4, 1), 0);
        x.mend(3, 5);
        D.due("8 of 10 sold ahead of sour, 10 more each", x.best(4, 1), 4);
        D.due("the jugs stay", x.of(7), 3);
        x.mend(5, 32);
        D.due("40 of 32 too many, 4 jugs cost more", x.best(4, 1), 3);
        D.due("best(4, -1)", x.best(4, -1), BAD);
        D.due("best(4, 2)", x.best(4, 2), BAD);
    }

    private static void bestOfLikeOnes() {
        LemonGate x = gate(0, 12);
        D.due("nobody passes: the least price", x.best(9, 0), 0);
        D.due("nobody passes: no jugs", x.best(9, 1), 0);
        x.mend(0, 0);
        x.mend(1, 0);
        D.due("free jugs: none", x.best(9, 1), 0);
        x.flow(0, 31, 1);
        x.mend(2, 16);
        x.mend(5, 32);
        D.due("free jugs: as few as sell all", x.best(9, 1), 2);
        D.due("12 at 10 as 10 at 12", Due.tell(x, 1, "p=20&q<6|p=10&q<12?12"), 1);
        D.due("the least price", x.best(9, 0), 10);
    }

    private static void where() {
        LemonGate x = new LemonGate();
        D.due("no places", x.where(31, -1), STATE);
        D.due("bad first", x.where(32, -1), VOID);
        D.due("bad first", x.where(31, 32), VOID);
        x.place();
        D.due("a place without flow", x.where(31, -1), 0);
        D.due("nowhere is ahead of 0", x.where(31, 5), -1);
        x.flow(0, 305, 2);
        x.place();
        x.flow(1, 709, 4);
        D.due("the sum", x.where(31, -1), 18);
        int[] row = {-1, -1, -1, 0, 0, 0, -1, 1, 1, 1, -1};
        for (int quarter = 0; quarter < row.length; quarter++) {
            D.due("quarter " + quarter, x.where(31, quarter), row[quarter]);
        }
        x.flow(1, 606, 3);
        D.due("the move costs the 2 of quarter 5", x.where(31, -1), 19);
        D.due("quarter 4", x.where(31, 4), 0);
        D.due("quarter 5", x.where(31, 5), -1);
        D.due("quarter 6", x.where(31, 6), 1);
        D.due("some of it", x.where(505, -1), 2);
        D.due("some of it", x.where(505, 5), 0);
        D.due("some of it", x.where(506, -1), 3);
        D.due("some of it", x.where(506, 5), -1);
        D.due("told of another quarter", x.where(506, 4), VOID);
        D.due("told of another quarter", x.where(506, 7), VOID);
        D.due("told of another quarter", x.where(506, 0), VOID);
        int[] bad = {-1, 32, 100, 3130, 3132, 3231, Integer.MIN_VALUE, Integer.MAX_VALUE};
        for (int ft : bad) {
            D.due("where(" + ft + ")", x.where(ft, -1), VOID);
        }
        D.due("where(31, -2)", x.where(31, -2), VOID);
        D.due("where stand is, stays", x.of(203), 0);
    }

    private static void firstOfLikeRows() {
        LemonGate x = new LemonGate();
        for (int place = 0; place < 4; place++) {
            x.place();
            x.flow(place, 3, 1);
        }
        D.due("four of 1", x.where(3, -1), 4);
        D.due("the first place", x.where(3, 0), 0);
        D.due("the first place", x.where(3, 3), 0);
        x.flow(3, 0, 2);
        D.due("2 at place 3, then 1 there", x.where(3, 0), 3);
        D.due("and on", x.where(3, 1), 3);
        x.flow(1, 303, 3);
        D.due("2, 1, a move, 3, or 1, 1, 1, 3 at place 1", x.where(3, -1), 6);
        D.due("place 1 is ahead of place 3", x.where(3, 0), 1);
        x.flow(1, 0, 0);
        D.due("2, a move, 1, 3, or 2, 1, a move, 3", x.where(3, -1), 6);
        int[] row = {3, -1, 1, 1};
        for (int quarter = 0; quarter < row.length; quarter++) {
            D.due("the earlier move", x.where(3, quarter), row[quarter]);
        }
    }

    private static void judge() {
        LemonGate x = gate(4, 12);
        D.due("judge(-1)", x.judge(-1, 0), BAD);
        D.due("judge(6)", x.judge(6, 0), BAD);
        D.due("nothing", x.judge(5, 0), -11);
        for (int sort : new int[] {0, 2, 3, 4}) {
            x.row(5, sort, 9);
            D.due("sort " + sort, x.judge(5, 0), -12);
        }
        x.body(0);
        x.keep(5, 0);
        D.due("a glass", x.judge(5, 0), -12);
        x.row(5, 1, 7);
        D.due("quarter 0 is wrong", x.judge(5, 0), 0);
        for (int quarter = 0; quarter < 7; quarter++) {
            x.put(5, quarter, 4);
        }
        D.due("the row ends before", x.judge(5, 0), NOT);
        x.put(5, 6, 5);
        D.due("the last one is wrong", x.judge(5, 0), 6);
        x.put(5, 3, -4);
        D.due("the first wrong one", x.judge(5, 0), 3);
        x.row(5, 1, 60);
        for (int quarter = 0; quarter < 7; quarter++) {
            x.put(5, quarter, 4);
        }
        x.put(5, 7, 2);
        x.put(5, 32, 1);
        D.due("behind quarter 31 it does not count", x.judge(5, 0), NOT);
        x.put(5, 31, 1);
        D.due("quarter 31 does", x.judge(5, 0), 31);
    }

    private static void seeded() {
        LemonGate x = gate(3, 5);
        D.due("seeded(-1)", x.seeded(-1), BAD);
        D.due("seeded(6)", x.seeded(6), BAD);
        D.due("nothing", x.seeded(1), -11);
        x.row(1, 0, 3);
        D.due("bytes", x.seeded(1), -12);
        for (int seed : new int[] {0, 1, 42, 99}) {
            x.day(seed);
            x.row(1, 1, 32);
            for (int quarter = 0; quarter < 32; quarter++) {
                x.put(1, quarter, x.told(100 + quarter));
            }
            int least = x.seeded(1);
            D.due("judged by it", x.judge(1, least), NOT);
            for (int before = 0; before < least; before++) {
                D.due("not by " + before, x.judge(1, before) >= 0 ? 1 : 0, 1);
            }
            D.due("no more than the seed", least <= seed ? 1 : 0, 1);
        }
        x.mend(6, 12);
        x.mend(3, 50);
        Due.tell(x, 1, "12");
        D.due("by the law as it is now", x.seeded(1), NOT);
        Due.tell(x, 1, "5");
        x.mend(3, 10);
        x.mend(6, 0);
        D.due("by the law as it is now", x.seeded(1) >= 0 ? 1 : 0, 1);
        x.put(1, 0, 4);
        D.due("by none", x.seeded(1), NOT);
        x.row(1, 1, 0);
        D.due("an empty row", x.seeded(1), 0);
        x.day(100);
        x.row(1, 1, 32);
        for (int quarter = 0; quarter < 32; quarter++) {
            x.put(1, quarter, x.told(100 + quarter));
        }
        D.due("seed 100 is not looked at", x.seeded(1), NOT);
    }
}
