/** The edges of promises 1 to 8: a new object, heat, heats, place, flow, stand, mend, of. */
final class EdgesOfQuarters {
    private static final int BAD = LemonGate.BAD, FULL = LemonGate.FULL, VOID = LemonGate.VOID;
    private static final int LEAST = Integer.MIN_VALUE, MOST = Integer.MAX_VALUE;
    private static final int[] NOT_QUARTERS = {-1, 32, 100, LEAST, MOST};
    // ft: too small, a quarter 32, from behind to, far away
    private static final int[] NOT_SPANS = {-1, -100, 32, 99, 100, 3130, 3132, 3200, 3231, 10000, LEAST, MOST};

    private final Said said;

    EdgesOfQuarters(Said said) {
        this.said = said;
    }

    void all() {
        newObject();
        quarters();
        places();
        stands();
        jug();
        jugsAndPrices();
        sourAndLittle();
        heat();
        heatsFromRow();
        heatsAnswers();
        place();
        flow();
        stand();
        mend();
        of();
    }

    private static LemonGate withPlaces(int n) {
        LemonGate x = new LemonGate();
        for (int i = 0; i < n; i++) {
            x.place();
        }
        return x;
    }

    private void newObject() {
        said.says(1, "No places.");
        LemonGate x = new LemonGate();
        said.due("count(0)", x.count(0), 0);
        said.due("of(1000)", x.of(1000), VOID);
        said.due("flow(0, 0, 0)", x.flow(0, 0, 0), BAD);
        said.due("stand(0, 0)", x.stand(0, 0), BAD);
        said.due("where(0, -1)", x.where(0, -1), LemonGate.STATE);
    }

    private void quarters() {
        said.says(0, "QUARTERS 0 .. 31, each with HEAT (0 .. 40; 20 at first).");
        LemonGate x = new LemonGate();
        for (int quarter = 0; quarter <= 31; quarter++) {
            said.due("at first of quarter " + quarter, x.of(100 + quarter), 20);
            said.due("heat(" + quarter + ", 0)", x.heat(quarter, 0), 20);
            said.due("heat(" + quarter + ", 40)", x.heat(quarter, 40), 0);
            said.due("of quarter " + quarter, x.of(100 + quarter), 40);
        }
        said.due("quarter -1", x.heat(-1, 20), BAD);
        said.due("quarter 32", x.heat(32, 20), BAD);
        said.due("heat -1", x.heat(0, -1), BAD);
        said.due("heat 41", x.heat(0, 41), BAD);
        said.due("of quarter -1", x.of(99), VOID);
        said.due("of quarter 32", x.of(132), VOID);
    }

    private void places() {
        said.says(0, "PLACES 0 .. 3, as they come: FLOW (0 .. 9 passers a QUARTER, each told; 0 at first).");
        LemonGate x = new LemonGate();
        for (int place = 0; place <= 3; place++) {
            said.due("not yet come", x.of(1000 + 100 * place), VOID);
            said.due("it comes", x.place(), place);
            for (int quarter = 0; quarter <= 31; quarter++) {
                said.due("at first", x.of(1000 + 100 * place + quarter), 0);
            }
        }
        said.due("a place 4", x.place(), FULL);
        said.due("of place 4", x.of(1400), VOID);
        said.due("flow of place 4", x.flow(4, 0, 1), BAD);
        said.due("flow 9", x.flow(2, 707, 9), 1);
        said.due("flow 10", x.flow(2, 707, 10), BAD);
        said.due("flow -1", x.flow(2, 707, -1), BAD);
        said.due("as told", x.of(1207), 9);
        int[] others = {1206, 1208, 1107, 1307, 1007};
        for (int other : others) {
            said.due("each told, of(" + other + ")", x.of(other), 0);
        }
        said.due("flow 0", x.flow(2, 707, 0), 1);
        said.due("as told", x.of(1207), 0);
    }

    private void stands() {
        said.says(0, "STAND: at which PLACE in each QUARTER (0 at first; -1: nowhere).");
        LemonGate x = new LemonGate();
        for (int quarter = 0; quarter <= 31; quarter++) {
            said.due("at first of quarter " + quarter, x.of(200 + quarter), 0);
        }
        said.due("nowhere, of no places", x.stand(-1, 31), 32);
        said.due("of the first quarter", x.of(200), -1);
        said.due("of the last quarter", x.of(231), -1);
        said.due("place -2", x.stand(-2, 0), BAD);
        x.place();
        said.due("place 0", x.stand(0, 1515), 1);
        said.due("in each quarter its own: 14", x.of(214), -1);
        said.due("in each quarter its own: 15", x.of(215), 0);
        said.due("in each quarter its own: 16", x.of(216), -1);
        said.due("of quarter -1", x.of(199), VOID);
        said.due("of quarter 32", x.of(232), VOID);
    }

    /** One number of the recipe: as it is at first, at its least and most, and one off them. */
    private void bounds(int what, int least, int most, int first) {
        LemonGate x = new LemonGate();
        String mend = "mend(" + what + ", ";
        said.due("of(" + what + ") at first", x.of(what), first);
        said.due(mend + (least - 1) + ")", x.mend(what, least - 1), BAD);
        said.due(mend + (most + 1) + ")", x.mend(what, most + 1), BAD);
        said.due(mend + "least int)", x.mend(what, LEAST), BAD);
        said.due(mend + "greatest int)", x.mend(what, MOST), BAD);
        said.due("it stays", x.of(what), first);
        said.due(mend + least + ")", x.mend(what, least), first);
        said.due(mend + most + ")", x.mend(what, most), least);
        said.due("of(" + what + ")", x.of(what), most);
    }

    private void jug() {
        said.says(0, "A JUG: LEMONS (0 .. 9), SUGAR (0 .. 9), GLASSES (1 .. 20); 3, 3, 10 at first; it costs 3 LEMONS and SUGAR pence.");
        bounds(0, 0, 9, 3);
        bounds(1, 0, 9, 3);
        bounds(2, 1, 20, 10);
        LemonGate x = new LemonGate();
        said.due("cost at first", x.of(8), 12);
        x.mend(0, 9);
        said.due("9 lemons, 3 sugar", x.of(8), 30);
        x.mend(1, 9);
        said.due("the dearest", x.of(8), 36);
        x.mend(0, 0);
        said.due("sugar alone", x.of(8), 9);
        x.mend(1, 0);
        said.due("nothing in it", x.of(8), 0);
        x.mend(0, 1);
        said.due("a lemon", x.of(8), 3);
    }

    private void jugsAndPrices() {
        said.says(0, "JUGS: how many may be made (0 .. 9; 3 at first).");
        bounds(7, 0, 9, 3);
        LemonGate x = new LemonGate();
        x.mend(5, 1);
        int[] jugs = {0, 1, 9};
        for (int n : jugs) {
            x.mend(7, n);
            x.day(0);
            said.due("made of " + n, x.told(5), n);
        }
        said.says(0, "PRICE (0 .. 50; 10 at first), the BOY's price (0 .. 50; 0: he is not there; 0 at first).");
        bounds(3, 0, 50, 10);
        bounds(4, 0, 50, 0);
        x = new LemonGate();
        said.due("he is not there", x.undercut(0, 0), LemonGate.STATE);
        x.mend(4, 1);
        said.due("he is there", x.undercut(0, 0), 9);
    }

    private void sourAndLittle() {
        said.says(0, "SOUR: behind how many QUARTERS a JUG is sour (1 .. 32; 8 at first).");
        bounds(5, 1, 32, 8);
        LemonGate x = new LemonGate();
        said.due("age 7", x.taste(0, 7, 0), 3);
        said.due("age 8", x.taste(0, 8, 0), 0);
        said.says(0, "LITTLE: in how many of twelve QUARTERS the little one drinks a glass (0 .. 12; 3 at first).");
        bounds(6, 0, 12, 3);
        x.mend(5, 32);
        x.mend(7, 9);
        x.mend(6, 0);
        x.day(17);
        said.due("of none of twelve", x.told(2), 0);
        x.mend(6, 12);
        x.day(17);
        said.due("of each of twelve", x.told(2), 32);
    }

    private void heat() {
        said.says(2, "HEAT of a QUARTER becomes v: what it was. BAD.");
        LemonGate x = new LemonGate();
        said.due("heat(31, 0)", x.heat(31, 0), 20);
        said.due("heat(31, 40)", x.heat(31, 40), 0);
        said.due("heat(31, 40) again", x.heat(31, 40), 40);
        for (int quarter : NOT_QUARTERS) {
            said.due("heat(" + quarter + ", 0)", x.heat(quarter, 0), BAD);
        }
        int[] bad = {-1, 41, LEAST, MOST};
        for (int v : bad) {
            said.due("heat(31, " + v + ")", x.heat(31, v), BAD);
        }
        said.due("it stays", x.of(131), 40);
        said.due("another one stays", x.of(130), 20);
    }

    /** A row of bytes on shelf 0. */
    private static LemonGate withBytes(int... v) {
        LemonGate x = new LemonGate();
        x.row(0, 0, v.length);
        for (int i = 0; i < v.length; i++) {
            x.put(0, i, v[i]);
        }
        return x;
    }

    private void heatsFromRow() {
        said.says(0, "HEATS FROM A ROW of bytes, from a place on: HEAT of QUARTERS from a told one on: n of them;"
                + " it ends where the row is missing, ends, one is not so, or behind QUARTER 31: those ahead came.");
        LemonGate x = withBytes(1, 2, 40, 0);
        said.due("n of them: 2 from place 1, to quarter 5", x.heats(0, 1, 502), 2);
        int[] heats = {20, 2, 40, 20};
        for (int i = 0; i < heats.length; i++) {
            said.due("of quarter " + (4 + i), x.of(104 + i), heats[i]);
        }
        said.due("the row is missing", x.heats(1, 0, 32), 0);
        said.due("it ends: 1 of 2", x.heats(0, 3, 1002), 1);
        said.due("the one ahead came", x.of(110), 0);
        said.due("the one behind did not", x.of(111), 20);
        said.due("at its end", x.heats(0, 4, 1), 0);
        said.due("behind its end", x.heats(0, 5, 1), 0);
        said.due("far behind its end", x.heats(0, MOST, 32), 0);
        said.due("ahead of it", x.heats(0, -1, 32), 0);
        said.due("far ahead of it", x.heats(0, LEAST, 32), 0);
        said.due("none of these came", x.of(100), 20);
        x = withBytes();
        said.due("a row of none", x.heats(0, 0, 1), 0);
        int[] off = {41, -1, 127, -128, 255};
        for (int v : off) {
            x = withBytes(7, v, 7);
            said.due("one of " + v, x.heats(0, 0, 3), 1);
            said.due("the one ahead of it", x.of(100), 7);
            said.due("its quarter", x.of(101), 20);
            said.due("the one behind it", x.of(102), 20);
            said.due("it first", x.heats(0, 1, 3), 0);
        }
        x = withBytes(256 + 40, 1, 2);
        said.due("one that wraps to 40", x.heats(0, 0, 1), 1);
        said.due("of(100)", x.of(100), 40);
        said.due("behind quarter 31: 2 of 3", x.heats(0, 0, 3003), 2);
        said.due("of(130)", x.of(130), 40);
        said.due("of(131)", x.of(131), 1);
        said.due("quarter 0 is not behind quarter 31", x.of(101), 20);
        x.row(0, 0, 60);
        said.due("32 of 60", x.heats(0, 28, 32), 32);
        said.due("of(131)", x.of(131), 0);
        x.row(0, 0, 60);
        said.due("1 of 32 in quarter 31", x.heats(0, 0, 3132), 1);
    }

    private void heatsAnswers() {
        said.says(3, "HEATS FROM A ROW on a SHELF, from place i on, n (1 .. 32) of them,"
                + " for QUARTERS from one on (qn: 100 times that QUARTER, and n): how many came.");
        LemonGate x = new LemonGate();
        x.row(0, 0, 60);
        said.due("n 1", x.heats(0, 0, 1), 1);
        said.due("n 32", x.heats(0, 0, 32), 32);
        said.due("quarter 31, n 1", x.heats(0, 59, 3101), 1);
        said.says(3, "BAD, -12 (no ROW of bytes; a SHELF that holds nothing is missing).");
        int[] bad = {0, 33, 99, -1, -100, -3201, 100, 133, 3100, 3133, 3201, 10001, LEAST, MOST};
        for (int qn : bad) {
            said.due("heats(0, 0, " + qn + ")", x.heats(0, 0, qn), BAD);
        }
        int[] shelves = {-1, 6, LEAST, MOST};
        for (int shelf : shelves) {
            said.due("heats(" + shelf + ", 0, 1)", x.heats(shelf, 0, 1), BAD);
        }
        for (int sort = 1; sort <= 4; sort++) {
            x.row(1, sort, 3);
            said.due("a row of sort " + sort, x.heats(1, 0, 1), -12);
            said.due("of sort " + sort + " of no such place", x.heats(1, 9, 1), -12);
            said.due("bad is named first", x.heats(1, 0, 0), BAD);
        }
        x.body(0);
        x.keep(2, 0);
        said.due("a glass", x.heats(2, 0, 1), -12);
        said.due("bad is named first", x.heats(2, 0, 33), BAD);
        said.due("a shelf that holds nothing", x.heats(3, 0, 1), 0);
        said.due("it holds nothing, but bad is named first", x.heats(3, 0, 3201), BAD);
        x.keep(2, -1);
        said.due("a shelf that holds nothing again", x.heats(2, 0, 1), 0);
    }

    private void place() {
        said.says(4, "A PLACE: its number. FULL: 4.");
        LemonGate x = new LemonGate();
        for (int place = 0; place < 4; place++) {
            said.due("place()", x.place(), place);
        }
        said.due("place() of 4", x.place(), FULL);
        said.due("place() again", x.place(), FULL);
        said.due("count(0)", x.count(0), 4);
    }

    private void flow() {
        said.says(5, "FLOW of a PLACE in QUARTERS from to (ft: 100 times from, and to) becomes v: how many QUARTERS. BAD.");
        LemonGate x = withPlaces(2);
        said.due("all quarters", x.flow(0, 31, 3), 32);
        said.due("the first one", x.flow(0, 0, 4), 1);
        said.due("the last one", x.flow(0, 3131, 5), 1);
        said.due("two of them", x.flow(0, 1011, 6), 2);
        int[][] flows = {{0, 4}, {1, 3}, {9, 3}, {10, 6}, {11, 6}, {12, 3}, {30, 3}, {31, 5}};
        for (int[] f : flows) {
            said.due("of quarter " + f[0], x.of(1000 + f[0]), f[1]);
            said.due("of another place", x.of(1100 + f[0]), 0);
        }
        for (int ft : NOT_SPANS) {
            said.due("flow(0, " + ft + ", 1)", x.flow(0, ft, 1), BAD);
        }
        int[] places = {-1, 2, 4, LEAST, MOST};
        for (int place : places) {
            said.due("flow(" + place + ", 31, 1)", x.flow(place, 31, 1), BAD);
        }
        int[] off = {-1, 10, LEAST, MOST};
        for (int v : off) {
            said.due("flow(0, 31, " + v + ")", x.flow(0, 31, v), BAD);
        }
        for (int[] f : flows) {
            said.due("it stays, of quarter " + f[0], x.of(1000 + f[0]), f[1]);
        }
    }

    private void stand() {
        said.says(6, "STAND is at a PLACE (-1: nowhere) in QUARTERS ft: how many. BAD.");
        LemonGate x = withPlaces(3);
        said.due("all quarters", x.stand(2, 31), 32);
        said.due("the last one, nowhere", x.stand(-1, 3131), 1);
        said.due("the first two", x.stand(1, 1), 2);
        int[][] stands = {{0, 1}, {1, 1}, {2, 2}, {30, 2}, {31, -1}};
        for (int[] s : stands) {
            said.due("of quarter " + s[0], x.of(200 + s[0]), s[1]);
        }
        for (int ft : NOT_SPANS) {
            said.due("stand(0, " + ft + ")", x.stand(0, ft), BAD);
            said.due("stand(-1, " + ft + ")", x.stand(-1, ft), BAD);
        }
        int[] places = {-2, 3, 4, LEAST, MOST};
        for (int place : places) {
            said.due("stand(" + place + ", 31)", x.stand(place, 31), BAD);
        }
        for (int[] s : stands) {
            said.due("it stays, of quarter " + s[0], x.of(200 + s[0]), s[1]);
        }
    }

    private void mend() {
        said.says(7, "LEMONS (what 0), SUGAR (1), GLASSES (2), PRICE (3), the BOY's (4), SOUR (5), LITTLE (6),"
                + " JUGS (7) becomes v: what it was. BAD.");
        LemonGate x = new LemonGate();
        int[] first = {3, 3, 10, 10, 0, 8, 3, 3};
        for (int what = 0; what <= 7; what++) {
            said.due("mend(" + what + ", " + (what + 1) + ")", x.mend(what, what + 1), first[what]);
            said.due("mend(" + what + ", " + (what + 2) + ")", x.mend(what, what + 2), what + 1);
        }
        for (int what = 0; what <= 7; what++) {
            said.due("of(" + what + ")", x.of(what), what + 2);
        }
        int[] none = {-1, 8, 9, 100, LEAST, MOST};
        for (int what : none) {
            said.due("mend(" + what + ", 1)", x.mend(what, 1), BAD);
        }
    }

    private void of() {
        said.says(8, "As of mend(): 0 to 7; 8 what a JUG costs; 9 what a glass of it does (cut);"
                + " of a QUARTER: 100 and it: HEAT, 200 and it: where STAND is;"
                + " of a PLACE p: 1000 and 100 p, and the QUARTER: FLOW. VOID: BAD.");
        LemonGate x = new LemonGate();
        int[] first = {3, 3, 10, 10, 0, 8, 3, 3, 12, 1};
        for (int what = 0; what <= 9; what++) {
            said.due("of(" + what + ")", x.of(what), first[what]);
        }
        int[][] cuts = {{12, 1}, {13, 0}, {11, 1}, {6, 2}, {7, 1}, {1, 12}};
        for (int[] c : cuts) {
            x.mend(2, c[0]);
            said.due("12 by " + c[0], x.of(9), c[1]);
        }
        int[] bad = {-1, 10, 99, 132, 199, 232, 999, 1000, 1031, 1100, LEAST, MOST, -100, -200, -1000};
        for (int what : bad) {
            said.due("of(" + what + ") without a place", x.of(what), VOID);
        }
        x.place();
        x.place();
        x.place();
        x.place();
        x.flow(3, 3131, 8);
        said.due("of(1331)", x.of(1331), 8);
        int[] off = {900, 931, 999, 1032, 1099, 1132, 1332, 1399, 1400, 1431};
        for (int what : off) {
            said.due("of(" + what + ")", x.of(what), VOID);
        }
        said.due("of(1000)", x.of(1000), 0);
        said.due("of(1300)", x.of(1300), 0);
    }
}
