import java.util.ArrayList;
import java.util.List;
import java.util.Random;

/** Promises 26 to 29: image, back, undo, redo (and mend, whose changes they undo). */
public final class ChangesTest {
    private static final Due D = new Due();
    private static final int STATE = LemonGate.STATE;

    public static void main(String[] args) {
        image();
        undoRedo();
        oldestForgotten();
        byTrying();
        D.end();
    }

    private static void image() {
        LemonGate x = new LemonGate();
        D.due("no image", x.back(), STATE);
        x.place();
        x.place();
        x.heat(0, 40);
        x.heat(31, 0);
        x.stand(1, 203);
        D.due("image", x.image(), 640);
        x.heat(0, 1);
        x.heat(5, 2);
        x.stand(0, 202);
        x.stand(-1, 505);
        x.flow(0, 31, 7);
        x.mend(0, 9);
        D.due("back", x.back(), 640);
        D.due("heat", x.of(100), 40);
        D.due("heat", x.of(105), 20);
        D.due("stand", x.of(202), 1);
        D.due("stand", x.of(205), 0);
        D.due("flow is not in it", x.of(1000), 7);
        D.due("lemons are not in it", x.of(0), 9);
        D.due("undone", x.undo(), 0);
        x.heat(1, 30);
        D.due("back again", x.back(), 640);
        x.heat(1, 30);
        D.due("another image", x.image(), 650);
        x.heat(1, 0);
        D.due("back to it", x.back(), 650);
        D.due("heat", x.of(101), 30);
    }

    private static void undoRedo() {
        LemonGate x = new LemonGate();
        D.due("none to undo", x.undo(), STATE);
        D.due("none to redo", x.redo(), STATE);
        x.mend(0, 3);
        D.due("the same number is none", x.undo(), STATE);
        x.mend(0, 10);
        D.due("a bad one is none", x.undo(), STATE);
        for (int what = 0; what < 8; what++) {
            x.mend(what, 5);
            D.due("count(2)", x.count(2), what + 1);
        }
        int[] first = {3, 3, 10, 10, 0, 8, 3, 3};
        for (int what = 7; what >= 0; what--) {
            D.due("undo", x.undo(), what);
            D.due("as it was", x.of(what), first[what]);
            D.due("count(2)", x.count(2), what);
        }
        D.due("none to undo", x.undo(), STATE);
        for (int what = 0; what < 8; what++) {
            D.due("redo", x.redo(), 7 - what);
            D.due("as it became", x.of(what), 5);
        }
        D.due("none to redo", x.redo(), STATE);
        x.undo();
        x.undo();
        x.mend(0, 5);
        D.due("the same number leaves them", x.redo(), 1);
        x.mend(0, 10);
        D.due("a bad one leaves them", x.redo(), 0);
        x.undo();
        x.undo();
        x.mend(0, 6);
        D.due("another one came behind", x.redo(), STATE);
        D.due("undo", x.undo(), 6);
        D.due("lemons", x.of(0), 5);
        x.heat(0, 1);
        x.stand(-1, 0);
        D.due("others are no changes", x.redo(), 0);
        D.due("lemons", x.of(0), 6);
    }

    private static void oldestForgotten() {
        LemonGate x = new LemonGate();
        for (int v = 1; v <= 45; v++) {
            x.mend(3, v == 10 ? 50 : v);
            D.due("count(2)", x.count(2), Math.min(v, 40));
        }
        for (int n = 39; n >= 0; n--) {
            D.due("undo", x.undo(), n);
        }
        D.due("none to undo", x.undo(), STATE);
        D.due("the price behind the five forgotten", x.of(3), 5);
        D.due("redo", x.redo(), 39);
        D.due("price", x.of(3), 6);
        for (int n = 38; n >= 0; n--) {
            D.due("redo", x.redo(), n);
        }
        D.due("price", x.of(3), 45);
    }

    private static void byTrying() {
        Random random = new Random(11);
        for (int run = 0; run < 60; run++) {
            LemonGate x = new LemonGate();
            List<int[]> states = new ArrayList<>();
            states.add(new int[] {3, 3, 10, 10, 0, 8, 3, 3});
            int at = 0;
            for (int call = 0; call < 500; call++) {
                int kind = random.nextInt(run % 3 + 3);
                if (kind == 0) {
                    D.due("undo", x.undo(), at == 0 ? STATE : at - 1);
                    at = Math.max(at - 1, 0);
                } else if (kind == 1) {
                    int left = states.size() - 1 - at;
                    D.due("redo", x.redo(), left == 0 ? STATE : left - 1);
                    at = Math.min(at + 1, states.size() - 1);
                } else {
                    int what = random.nextInt(8), v = 1 + random.nextInt(9);
                    int[] state = states.get(at).clone();
                    D.due("mend", x.mend(what, v), state[what]);
                    if (state[what] != v) {
                        states.subList(at + 1, states.size()).clear();
                        state[what] = v;
                        states.add(state);
                        at++;
                        if (at > 40) {
                            states.remove(0);
                            at--;
                        }
                    }
                }
                for (int what = 0; what < 8; what++) {
                    D.due("of", x.of(what), states.get(at)[what]);
                }
                D.due("count(2)", x.count(2), at);
            }
        }
    }
}
