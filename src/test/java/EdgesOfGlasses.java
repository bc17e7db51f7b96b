/** The edges of promises 30 to 32: body, act, trace. */
final class EdgesOfGlasses {
    private static final int BAD = LemonGate.BAD, FULL = LemonGate.FULL;
    private static final int LEAST = Integer.MIN_VALUE, MOST = Integer.MAX_VALUE;
    private static final int MAKES = 0, SELLS = 1, SHARES = 2, TELLS = 3;
    private static final int SOLD = 1, DRUNK = 2, SPILT = 3, GIVEN = 4, SOUR = 5, LOST = 6, OVERPAID = 7;
    // by kind, of makes, sells, shares, tells
    private static final int[][][] TRACES = {
        {{1}, {10, 1}, {11}, {2, 10, 1, 11}},
        {{20, 1}, {10, 20, 1}, {11}, {2, 10, 20, 1, 11}},
        {{1}, {30, 10, 1}, {11}, {2, 30, 10, 1, 11}},
        {{1}, {41, 30, 10, 1}, {40, 11}, {2, 41, 30, 10, 1, 40, 11}},
        {{20, 1}, {10, 20, 1}, {50, 11, 20, 1}, {2, 10, 20, 1, 50, 11, 20, 1}},
        {{1}, {41, 30, 10, 1}, {40, 11}, {60, 2, 41, 30, 10, 1, 40, 11}},
        {{70, 1}, {10, 70, 1}, {11}, {2, 10, 70, 1, 11}},
        {{20, 1}, {80, 10, 20, 1, 50, 11, 20, 1}, {50, 11, 20, 1}, {81, 2, 80, 10, 20, 1, 50, 11, 20, 1, 50, 11, 20, 1}}};

    private final Said said;

    EdgesOfGlasses(Said said) {
        this.said = said;
    }

    void all() {
        kinds();
        acts();
        bodiesOfActs();
        ownAndSuper();
        theTrace();
        body();
        act();
        trace();
    }

    /** An object whose glasses 0 .. n - 1 are of kinds 0 .. 7, again and again. */
    private static LemonGate withGlasses(int n) {
        LemonGate x = new LemonGate();
        for (int i = 0; i < n; i++) {
            x.body(i % 8);
        }
        return x;
    }

    private void kinds() {
        said.says(0, "GLASSES' ways are kept by call as BODIES 0 .. 49, of KINDS: 0 GLASS; 1 SOLD under GLASS;"
                + " 2 DRUNK under GLASS; 3 SPILT under DRUNK; 4 GIVEN under SOLD; 5 SOUR under SPILT; 6 LOST under GLASS;"
                + " 7 OVERPAID under GIVEN.");
        int[][] above = {{0}, {0, 1}, {0, 2}, {0, 2, 3}, {0, 1, 4}, {0, 2, 3, 5}, {0, 6}, {0, 1, 4, 7}};
        LemonGate x = new LemonGate();
        for (int kind = 0; kind <= 7; kind++) {
            said.due("body(" + kind + ")", x.body(kind), kind);
            x.keep(0, kind);
            int at = 0;
            for (int k = 0; k <= 7; k++) {
                boolean isUnder = at < above[kind].length && above[kind][at] == k;
                at += isUnder ? 1 : 0;
                said.due("kind " + kind + " taken for " + k, x.taken(0, k), isUnder ? kind : -12);
            }
        }
        for (int n = 8; n <= 49; n++) {
            said.due("body " + n, x.body(0), n);
        }
        said.due("a body 50", x.body(0), FULL);
        said.due("the last one acts", x.act(49, MAKES, 1), 50);
        said.due("body 50 does not", x.act(50, MAKES, 1), 0);
    }

    private static int makes(int kind, int n, int x) {
        switch (kind) {
            case SOLD: case GIVEN: case OVERPAID: return x + n + 3;
            case LOST: return (x + n) * 2;
            default: return x + n;
        }
    }

    private static int sells(int kind, int n, int x) {
        switch (kind) {
            case DRUNK: return -((x + n) * 2);
            case SPILT: case SOUR: return -((x + 1 + n) * 2);
            case OVERPAID: return (x + n + 3) * 2 + shares(kind, n, 2);
            default: return makes(kind, n, x) * 2;
        }
    }

    private static int shares(int kind, int n, int x) {
        switch (kind) {
            case SPILT: case SOUR: return (x ^ n) * 3;
            case GIVEN: case OVERPAID: return (x ^ n) - (2 + n + 3);
            default: return x ^ n;
        }
    }

    private static int tells(int kind, int n, int x) {
        int told = sells(kind, n, x) - shares(kind, n, 1);
        return kind == SOUR ? told ^ 5 : kind == OVERPAID ? told - 1 : told;
    }

    private static int acted(int kind, int act, int n, int x) {
        return act == MAKES ? makes(kind, n, x) : act == SELLS ? sells(kind, n, x) : act == SHARES ? shares(kind, n, x) : tells(kind, n, x);
    }

    private void acts() {
        said.says(0, "ACTS with x (an int that wraps): 0 makes, 1 sells, 2 shares, 3 tells; n its number.");
        int[] told = {0, 1, -1, 5, LEAST, LEAST + 1, MOST, MOST - 1, 1 << 30};
        for (int v : told) {
            LemonGate x = withGlasses(50);
            for (int n = 0; n < 50; n++) {
                for (int act = MAKES; act <= TELLS; act++) {
                    said.due("act(" + n + ", " + act + ", " + v + ")", x.act(n, act, v), acted(n % 8, act, n, v));
                }
            }
        }
        LemonGate x = withGlasses(8);
        said.due("wraps", x.act(1, MAKES, MOST), LEAST + 3);
        said.due("wraps", x.act(0, SELLS, 1 << 30), LEAST);
        said.due("wraps", x.act(2, SELLS, (1 << 30) - 2), LEAST);
        said.due("wraps", x.act(3, SELLS, MOST), -6);
    }

    private void bodiesOfActs() {
        String[] bodies = {"BODIES of acts: MAKES (an interface of GLASS): 1 makes: x + n.",
            "GLASS: 10 sells: makes(x) * 2. 11 shares: x ^ n.", "TELLS (of GLASS): 2 tells: sells(x) - shares(1).",
            "SOLD: 20 makes: super.makes(x) + 3.", "DRUNK: 30 sells: -super.sells(x).",
            "SPILT: 40 shares: super.shares(x) * 3. 41 sells: super.sells(x + 1).",
            "GIVEN: 50 shares: super.shares(x) - makes(2).", "SOUR: 60 tells: super.tells(x) ^ 5.",
            "LOST: 70 makes: super.makes(x) * 2.", "OVERPAID: 80 sells: super.sells(x) + shares(2). 81 tells: super.tells(x) - 1."};
        int[][] kindActs = {{0, MAKES}, {0, SELLS, SHARES}, {0, TELLS}, {SOLD, MAKES}, {DRUNK, SELLS}, {SPILT, SHARES, SELLS},
            {GIVEN, SHARES}, {SOUR, TELLS}, {LOST, MAKES}, {OVERPAID, SELLS, TELLS}};
        LemonGate x = withGlasses(8);
        for (int i = 0; i < bodies.length; i++) {
            said.says(0, bodies[i]);
            int kind = kindActs[i][0];
            for (int j = 1; j < kindActs[i].length; j++) {
                int act = kindActs[i][j];
                for (int v = -2; v <= 6; v += 4) {
                    said.due("act(" + kind + ", " + act + ", " + v + ")", x.act(kind, act, v), acted(kind, act, kind, v));
                }
                said.due("the body that began", x.trace(0), TRACES[kind][act][0]);
            }
        }
    }

    private void ownAndSuper() {
        said.says(0, "makes(..) and so on: the body of its own KIND, or of the next KIND above that has one;"
                + " super: from the KIND above the body's on.");
        LemonGate x = withGlasses(8);
        for (int kind = 0; kind <= 7; kind++) {
            for (int act = MAKES; act <= TELLS; act++) {
                x.act(kind, act, 1);
                for (int i = 0; i < TRACES[kind][act].length; i++) {
                    said.due("trace(" + i + ") of kind " + kind + ", act " + act, x.trace(i), TRACES[kind][act][i]);
                }
                said.due("and no more", x.count(4), TRACES[kind][act].length);
            }
        }
    }

    private void theTrace() {
        said.says(0, "THE TRACE: numbers of the bodies that ran in the latest act(), as they began; the first 24 are kept.");
        LemonGate x = withGlasses(8);
        said.due("none at first", x.count(4), 0);
        said.due("trace(0)", x.trace(0), BAD);
        x.act(7, TELLS, 1);
        // the longest that there is: none comes near 24
        said.due("how many ran", x.count(4), 14);
        for (int i = 0; i < 14; i++) {
            said.due("trace(" + i + ")", x.trace(i), TRACES[7][TELLS][i]);
        }
        said.due("trace(14)", x.trace(14), BAD);
        x.act(0, MAKES, 1);
        said.due("the latest alone", x.count(4), 1);
        said.due("trace(0)", x.trace(0), 1);
        said.due("trace(1)", x.trace(1), BAD);
    }

    private void body() {
        said.says(30, "A GLASS of a KIND (0 .. 7) is kept: its number. BAD, FULL.");
        LemonGate x = new LemonGate();
        int[] bad = {-1, 8, LEAST, MOST};
        for (int kind : bad) {
            said.due("body(" + kind + ")", x.body(kind), BAD);
        }
        for (int n = 0; n < 50; n++) {
            said.due("body(7)", x.body(7), n);
        }
        said.due("a 51st", x.body(7), FULL);
        said.due("a 51st of kind 0", x.body(0), FULL);
        for (int kind : bad) {
            said.due("bad is named first: body(" + kind + ")", x.body(kind), BAD);
        }
        said.due("count(3)", x.count(3), 50);
    }

    private void act() {
        said.says(31, "An ACT (0 .. 3) of a GLASS with x. 0, and no TRACE then: no such GLASS, ACT.");
        LemonGate x = withGlasses(8);
        int[][] none = {{-1, 0}, {8, 0}, {49, 0}, {50, 0}, {LEAST, 0}, {MOST, 0}, {0, -1}, {0, 4}, {0, LEAST}, {0, MOST}, {8, 4}};
        for (int[] b : none) {
            said.due("act(7, 3, 9)", x.act(7, 3, 9), acted(7, TELLS, 7, 9));
            said.due("act(" + b[0] + ", " + b[1] + ", 9)", x.act(b[0], b[1], 9), 0);
            said.due("no trace then", x.trace(0), BAD);
            said.due("none ran", x.count(4), 0);
        }
        said.due("no glass at all", new LemonGate().act(0, 0, 9), 0);
    }

    private void trace() {
        said.says(32, "THE TRACE's i-th body. BAD.");
        LemonGate x = withGlasses(4);
        x.act(3, SELLS, 0);
        int[] ran = {41, 30, 10, 1};
        for (int i = 0; i < 4; i++) {
            said.due("trace(" + i + ")", x.trace(i), ran[i]);
        }
        int[] bad = {-1, 4, 23, 24, 25, LEAST, MOST};
        for (int i : bad) {
            said.due("trace(" + i + ")", x.trace(i), BAD);
        }
    }
}
