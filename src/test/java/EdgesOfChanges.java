/** The edges of promises 26 to 29: image, back, undo, redo, and of the changes by mend() that they undo. */
final class EdgesOfChanges {
    private static final int BAD = LemonGate.BAD, STATE = LemonGate.STATE;

    private final Said said;

    EdgesOfChanges(Said said) {
        this.said = said;
    }

    void all() {
        changes();
        newerChange();
        mostKept();
        imageKeeps();
        image();
        back();
        undo();
        redo();
    }

    private void changes() {
        said.says(0, "CHANGES (LEMONS, SUGAR, GLASSES; PRICE, the BOY's, SOUR, LITTLE, JUGS; telling the same number is none)"
                + " can be UNDONE, the latest first,");
        LemonGate x = new LemonGate();
        int[] first = {3, 3, 10, 10, 0, 8, 3, 3};
        for (int what = 0; what <= 7; what++) {
            x.mend(what, first[what]);
            said.due("the same number is none", x.count(2), what);
            x.mend(what, 9);
            said.due("another one is one", x.count(2), what + 1);
            x.mend(what, 9);
            said.due("the same number again is none", x.count(2), what + 1);
        }
        for (int what = 7; what >= 0; what--) {
            said.due("undo()", x.undo(), what);
            for (int other = 0; other <= 7; other++) {
                said.due("of(" + other + ") behind " + what + " undone", x.of(other), other < what ? 9 : first[other]);
            }
        }
        x.heat(0, 0);
        x.place();
        x.flow(0, 0, 1);
        x.stand(-1, 0);
        x.brings(1, 1);
        x.minutes(1, 1);
        x.slate(1, 1);
        x.image();
        x.back();
        x.body(0);
        said.due("others are none", x.count(2), 0);
        said.due("none to undo", x.undo(), STATE);
    }

    private void newerChange() {
        said.says(0, "and DONE AGAIN (as long as no other came behind);");
        LemonGate x = new LemonGate();
        x.mend(0, 4);
        x.mend(0, 5);
        x.mend(1, 6);
        x.undo();
        x.undo();
        said.due("lemons", x.of(0), 4);
        x.mend(0, 4);
        said.due("the same number is no other", x.redo(), 1);
        said.due("lemons", x.of(0), 5);
        x.mend(0, 10);
        x.mend(9, 0);
        said.due("a bad one is no other", x.redo(), 0);
        said.due("sugar", x.of(1), 6);
        said.due("all done again", x.redo(), STATE);
        x.undo();
        x.undo();
        x.mend(2, 1);
        said.due("another one came behind", x.redo(), STATE);
        said.due("lemons", x.of(0), 4);
        said.due("sugar", x.of(1), 3);
        said.due("that one can be undone", x.undo(), 1);
        said.due("and done again", x.redo(), 0);
        said.due("glasses", x.of(2), 1);
        x.undo();
        x.mend(2, 1);
        said.due("told again, not done again", x.redo(), STATE);
        said.due("undo()", x.undo(), 1);
        said.due("undo()", x.undo(), 0);
        said.due("undo()", x.undo(), STATE);
        said.due("redo()", x.redo(), 1);
    }

    private void mostKept() {
        said.says(0, "40 at most are kept.");
        LemonGate x = new LemonGate();
        for (int v = 11; v <= 50; v++) {
            x.mend(3, v);
        }
        said.due("40 are kept", x.count(2), 40);
        x.mend(4, 1);
        said.due("a 41st", x.count(2), 40);
        for (int left = 39; left >= 0; left--) {
            said.due("undo()", x.undo(), left);
        }
        said.due("the first one is not kept", x.undo(), STATE);
        said.due("the price that it made", x.of(3), 11);
        for (int left = 39; left >= 0; left--) {
            said.due("redo()", x.redo(), left);
        }
        said.due("no more", x.redo(), STATE);
        said.due("the price", x.of(3), 50);
        said.due("the boy's", x.of(4), 1);
        mostOfManyKept();
    }

    private void mostOfManyKept() {
        LemonGate x = new LemonGate();
        int[][] changes = new int[43][];
        for (int n = 0; n < changes.length; n++) {
            int what = n % 8;
            changes[n] = new int[] {what, x.of(what), 1 + n / 8 + what % 3 * 3};
            changes[n][2] += changes[n][2] == changes[n][1] ? 1 : 0;
            x.mend(what, changes[n][2]);
            said.due("change " + n, x.count(2), Math.min(n + 1, 40));
        }
        for (int n = 42; n >= 3; n--) {
            said.due("undo()", x.undo(), n - 3);
            said.due("as before change " + n, x.of(changes[n][0]), changes[n][1]);
        }
        said.due("three are not kept", x.undo(), STATE);
        for (int n = 0; n < 3; n++) {
            said.due("as behind change " + n, x.of(n), changes[n][2]);
        }
        for (int n = 3; n <= 42; n++) {
            said.due("redo()", x.redo(), 42 - n);
            said.due("as behind change " + n, x.of(changes[n][0]), changes[n][2]);
        }
        x.undo();
        x.undo();
        x.mend(3, 50);
        said.due("38 and one more", x.count(2), 39);
        x.mend(3, 49);
        x.mend(3, 48);
        said.due("40 again", x.count(2), 40);
    }

    private void imageKeeps() {
        said.says(0, "AN IMAGE keeps HEAT, where STAND is.");
        LemonGate x = new LemonGate();
        x.place();
        for (int quarter = 0; quarter <= 31; quarter++) {
            x.heat(quarter, quarter);
        }
        x.stand(-1, 1515);
        x.image();
        x.row(0, 0, 32);
        x.heats(0, 0, 32);
        x.stand(-1, 31);
        x.flow(0, 31, 4);
        x.mend(0, 9);
        x.place();
        x.brings(1, 2);
        x.back();
        for (int quarter = 0; quarter <= 31; quarter++) {
            said.due("heat of " + quarter, x.of(100 + quarter), quarter);
            said.due("stand of " + quarter, x.of(200 + quarter), quarter == 15 ? -1 : 0);
            said.due("flow is not kept", x.of(1000 + quarter), 4);
        }
        said.due("lemons are not kept", x.of(0), 9);
        said.due("places are not kept", x.count(0), 2);
        said.due("what a set brings is not kept", x.brings(1, 0), 2);
        said.due("changes are not kept", x.count(2), 1);
    }

    private void image() {
        said.says(26, "AN IMAGE is kept: the sum of all HEATS.");
        LemonGate x = new LemonGate();
        said.due("at first", x.image(), 640);
        x.row(0, 0, 32);
        x.heats(0, 0, 32);
        said.due("the coldest", x.image(), 0);
        for (int quarter = 0; quarter <= 31; quarter++) {
            x.heat(quarter, 40);
        }
        said.due("the hottest", x.image(), 1280);
        x.heat(31, 39);
        said.due("a little less", x.image(), 1279);
    }

    private void back() {
        said.says(27, "HEAT, STAND are as in THE IMAGE: the sum of all HEATS. STATE: there is none.");
        LemonGate x = new LemonGate();
        x.heat(0, 1);
        said.due("there is none", x.back(), STATE);
        said.due("heat stays", x.of(100), 1);
        x.image();
        said.due("nothing came between", x.back(), 621);
        x.heat(0, 40);
        x.stand(-1, 0);
        said.due("back()", x.back(), 621);
        said.due("heat", x.of(100), 1);
        said.due("stand", x.of(200), 0);
        x.heat(0, 2);
        said.due("back() again", x.back(), 621);
        x.heat(0, 3);
        said.due("another image", x.image(), 623);
        x.heat(0, 4);
        said.due("back() to the latest one", x.back(), 623);
        said.due("heat", x.of(100), 3);
    }

    private void undo() {
        said.says(28, "UNDONE: how many may still be. STATE: none.");
        LemonGate x = new LemonGate();
        said.due("none at first", x.undo(), STATE);
        x.mend(0, 3);
        said.due("the same number", x.undo(), STATE);
        said.due("a bad number", x.mend(0, -1), BAD);
        said.due("it is none", x.undo(), STATE);
        x.mend(0, 4);
        x.mend(0, 5);
        said.due("one of two", x.undo(), 1);
        said.due("lemons", x.of(0), 4);
        said.due("two of two", x.undo(), 0);
        said.due("lemons", x.of(0), 3);
        said.due("no third", x.undo(), STATE);
        said.due("lemons stay", x.of(0), 3);
    }

    private void redo() {
        said.says(29, "DONE AGAIN: how many may still be. STATE: none.");
        LemonGate x = new LemonGate();
        said.due("none at first", x.redo(), STATE);
        x.mend(0, 4);
        x.mend(0, 5);
        said.due("none undone", x.redo(), STATE);
        x.undo();
        x.undo();
        said.due("one of two", x.redo(), 1);
        said.due("lemons", x.of(0), 4);
        said.due("two of two", x.redo(), 0);
        said.due("lemons", x.of(0), 5);
        said.due("no third", x.redo(), STATE);
        said.due("lemons stay", x.of(0), 5);
        said.due("they can be undone again", x.undo(), 1);
    }
}
