/** Promises 2 to 8: heat, heats, place, flow, stand, mend, of. */
public final class QuartersTest {
    private static final Due D = new Due();
    private static final int BAD = LemonGate.BAD, VOID = LemonGate.VOID, FULL = LemonGate.FULL;

    public static void main(String[] args) {
        heat();
        heats();
        heatsThatEnd();
        places();
        flow();
        stand();
        mend();
        of();
        D.end();
    }

    private static void heat() {
        LemonGate x = new LemonGate();
        D.due("heat(0, 40)", x.heat(0, 40), 20);
        D.due("heat(0, 0)", x.heat(0, 0), 40);
        D.due("heat(31, 7)", x.heat(31, 7), 20);
        D.due("of(131)", x.of(131), 7);
        int[][] bad = {{-1, 5}, {32, 5}, {3, -1}, {3, 41}, {Integer.MIN_VALUE, 5}, {3, Integer.MAX_VALUE}};
        for (int[] b : bad) {
            D.due("heat bad", x.heat(b[0], b[1]), BAD);
        }
        D.due("of(103)", x.of(103), 20);
    }

    private static void heats() {
        LemonGate x = new LemonGate();
        int[][] bad = {{-1, 1}, {6, 1}, {0, -1}, {0, 0}, {0, 33}, {0, 100}, {0, 133}, {0, 199}, {0, 3201}, {0, Integer.MIN_VALUE}};
        for (int[] b : bad) {
            D.due("heats bad", x.heats(b[0], 0, b[1]), BAD);
        }
        D.due("heats of nothing", x.heats(0, 0, 1), 0);
        x.body(0);
        x.keep(0, 0);
        D.due("heats of a glass", x.heats(0, 0, 1), -12);
        D.due("heats bad first", x.heats(0, 0, 0), BAD);
        for (int sort = 1; sort <= 4; sort++) {
            x.row(0, sort, 3);
            D.due("heats of sort " + sort, x.heats(0, 0, 1), -12);
        }
        x.row(0, 0, 3);
        x.put(0, 0, 1);
        x.put(0, 1, 2);
        x.put(0, 2, 40);
        D.due("heats(0, 1, 502)", x.heats(0, 1, 502), 2);
        D.due("of(104)", x.of(104), 20);
        D.due("of(105)", x.of(105), 2);
        D.due("of(106)", x.of(106), 40);
        D.due("of(107)", x.of(107), 20);
        D.due("no more than n", x.heats(0, 0, 1702), 2);
        D.due("of(118)", x.of(118), 2);
        D.due("of(119)", x.of(119), 20);
        D.due("heats(0, 0, 3101)", x.heats(0, 0, 3101), 1);
        D.due("of(131)", x.of(131), 1);
    }

    private static void heatsThatEnd() {
        LemonGate x = new LemonGate();
        x.row(2, 0, 4);
        D.due("row ends", x.heats(2, 1, 32), 3);
        D.due("behind its end", x.heats(2, 4, 1), 0);
        D.due("far behind its end", x.heats(2, Integer.MAX_VALUE, 32), 0);
        D.due("ahead of it", x.heats(2, -1, 5), 0);
        D.due("far ahead of it", x.heats(2, Integer.MIN_VALUE, 5), 0);
        x.put(2, 2, 41);
        D.due("one too hot", x.heats(2, 0, 1004), 2);
        D.due("it stays", x.of(112), 20);
        x.put(2, 2, -1);
        D.due("one too cold", x.heats(2, 0, 1004), 2);
        x.put(2, 2, 200);
        D.due("one that wraps", x.heats(2, 0, 1004), 2);
        x.put(2, 2, 256 + 9);
        D.due("one that wraps to 9", x.heats(2, 0, 1004), 4);
        D.due("of(112)", x.of(112), 9);
        D.due("behind quarter 31", x.heats(2, 0, 3004), 2);
        x.row(3, 0, 60);
        D.due("all of them", x.heats(3, 28, 32), 32);
        x.row(4, 0, 0);
        D.due("an empty row", x.heats(4, 0, 32), 0);
    }

    private static void places() {
        LemonGate x = new LemonGate();
        for (int place = 0; place < 4; place++) {
            D.due("place", x.place(), place);
            D.due("count(0)", x.count(0), place + 1);
        }
        D.due("a fifth", x.place(), FULL);
        D.due("count(0)", x.count(0), 4);
    }

    private static void flow() {
        LemonGate x = new LemonGate();
        D.due("no place yet", x.flow(0, 0, 1), BAD);
        x.place();
        x.place();
        D.due("flow(1, 304, 9)", x.flow(1, 304, 9), 2);
        D.due("of(1102)", x.of(1102), 0);
        D.due("of(1103)", x.of(1103), 9);
        D.due("of(1104)", x.of(1104), 9);
        D.due("of(1105)", x.of(1105), 0);
        D.due("of(1003)", x.of(1003), 0);
        D.due("flow(0, 31, 0)", x.flow(0, 31, 0), 32);
        D.due("flow(0, 3131, 4)", x.flow(0, 3131, 4), 1);
        D.due("of(1031)", x.of(1031), 4);
        int[][] bad = {{-1, 0, 1}, {2, 0, 1}, {0, -1, 1}, {0, 32, 1}, {0, 100, 1}, {0, 3132, 1}, {0, 3231, 1},
            {0, 3130, 1}, {0, 0, -1}, {0, 0, 10}, {0, Integer.MIN_VALUE, 1}, {0, Integer.MAX_VALUE, 1}};
        for (int[] b : bad) {
            D.due("flow bad " + b[1], x.flow(b[0], b[1], b[2]), BAD);
        }
        D.due("of(1000)", x.of(1000), 0);
    }

    private static void stand() {
        LemonGate x = new LemonGate();
        D.due("no place yet", x.stand(0, 0), BAD);
        D.due("nowhere", x.stand(-1, 203), 2);
        D.due("of(201)", x.of(201), 0);
        D.due("of(202)", x.of(202), -1);
        D.due("of(203)", x.of(203), -1);
        D.due("of(204)", x.of(204), 0);
        x.place();
        x.place();
        D.due("stand(1, 31)", x.stand(1, 31), 32);
        D.due("of(231)", x.of(231), 1);
        int[][] bad = {{-2, 0}, {2, 0}, {0, -1}, {0, 32}, {0, 100}, {-1, 3132}, {-1, Integer.MIN_VALUE}};
        for (int[] b : bad) {
            D.due("stand bad", x.stand(b[0], b[1]), BAD);
        }
        D.due("of(200)", x.of(200), 1);
    }

    private static void mend() {
        int[] least = {0, 0, 1, 0, 0, 1, 0, 0}, most = {9, 9, 20, 50, 50, 32, 12, 9}, first = {3, 3, 10, 10, 0, 8, 3, 3};
        LemonGate x = new LemonGate();
        for (int what = 0; what < 8; what++) {
            D.due("below", x.mend(what, least[what] - 1), BAD);
            D.due("above", x.mend(what, most[what] + 1), BAD);
            D.due("far", x.mend(what, Integer.MIN_VALUE), BAD);
            D.due("it stays", x.of(what), first[what]);
            D.due("least", x.mend(what, least[what]), first[what]);
            D.due("most", x.mend(what, most[what]), least[what]);
            D.due("of", x.of(what), most[what]);
        }
        D.due("mend(8, 1)", x.mend(8, 1), BAD);
        D.due("mend(-1, 1)", x.mend(-1, 1), BAD);
        D.due("mend(max, 1)", x.mend(Integer.MAX_VALUE, 1), BAD);
    }

    private static void of() {
        LemonGate x = new LemonGate();
        x.mend(0, 7);
        x.mend(1, 5);
        x.mend(2, 9);
        D.due("of(8)", x.of(8), 26);
        D.due("of(9)", x.of(9), 2);
        x.place();
        int[] bad = {-1, 10, 99, 132, 199, 232, 999, 1032, 1099, 1100, 1131, 1400, -100, Integer.MIN_VALUE, Integer.MAX_VALUE};
        for (int what : bad) {
            D.due("of(" + what + ")", x.of(what), VOID);
        }
        x.place();
        D.due("of(1131)", x.of(1131), 0);
        D.due("of(1200)", x.of(1200), VOID);
    }
}
