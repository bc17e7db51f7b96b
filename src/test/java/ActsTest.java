import java.util.ArrayList;
import java.util.List;
import java.util.Random;

/** Promises 30 to 32: body, act, trace; the acts beside the same ones as Java's own classes. */
public final class ActsTest {
    private static final Due D = new Due();
    private static final int BAD = LemonGate.BAD;

    public static void main(String[] args) {
        bodies();
        byHand();
        byJava();
        noAct();
        D.end();
    }

    private static void bodies() {
        LemonGate x = new LemonGate();
        D.due("body(-1)", x.body(-1), BAD);
        D.due("body(8)", x.body(8), BAD);
        for (int n = 0; n < 50; n++) {
            D.due("body", x.body(n % 8), n);
            D.due("count(3)", x.count(3), n + 1);
        }
        D.due("full", x.body(0), LemonGate.FULL);
        D.due("bad first", x.body(8), BAD);
        D.due("count(3)", x.count(3), 50);
    }

    private static void acted(LemonGate x, int body, int act, int v, int want, int... trace) {
        String call = "act(" + body + ", " + act + ", " + v + ")";
        D.due(call, x.act(body, act, v), want);
        D.due("count(4) behind " + call, x.count(4), trace.length);
        for (int i = 0; i < trace.length; i++) {
            D.due("trace(" + i + ") behind " + call, x.trace(i), trace[i]);
        }
        D.due("trace behind its end", x.trace(trace.length), BAD);
        D.due("trace(-1)", x.trace(-1), BAD);
    }

    private static void byHand() {
        LemonGate x = new LemonGate();
        for (int kind = 0; kind < 8; kind++) {
            x.body(kind);
        }
        acted(x, 0, 0, 5, 5, 1);
        acted(x, 0, 1, 5, 10, 10, 1);
        acted(x, 0, 2, 5, 5, 11);
        acted(x, 0, 3, 5, 9, 2, 10, 1, 11);
        acted(x, 1, 0, 5, 9, 20, 1);
        acted(x, 1, 1, 5, 18, 10, 20, 1);
        acted(x, 1, 3, 5, 18, 2, 10, 20, 1, 11);
        acted(x, 2, 1, 5, -14, 30, 10, 1);
        acted(x, 3, 1, 5, -18, 41, 30, 10, 1);
        acted(x, 3, 2, 5, 18, 40, 11);
        acted(x, 4, 2, 5, -8, 50, 11, 20, 1);
        acted(x, 5, 3, 5, (-22 - 12) ^ 5, 60, 2, 41, 30, 10, 1, 40, 11);
        acted(x, 6, 0, 5, 22, 70, 1);
        acted(x, 6, 1, 5, 44, 10, 70, 1);
        // shares(v) of body 7: (v ^ 7) - (2 + 7 + 3)
        acted(x, 7, 1, 5, 30 + 5 - 12, 80, 10, 20, 1, 50, 11, 20, 1);
        acted(x, 7, 3, 5, 23 - (6 - 12) - 1, 81, 2, 80, 10, 20, 1, 50, 11, 20, 1, 50, 11, 20, 1);
        acted(x, 0, 1, Integer.MAX_VALUE, -2, 10, 1);
        acted(x, 7, 0, Integer.MAX_VALUE, Integer.MIN_VALUE + 9, 20, 1);
    }

    private static void noAct() {
        LemonGate x = new LemonGate();
        acted(x, 0, 0, 9, 0);
        x.body(7);
        int[][] none = {{-1, 0}, {1, 0}, {50, 0}, {0, -1}, {0, 4}, {Integer.MIN_VALUE, 0}, {0, Integer.MAX_VALUE}};
        for (int[] b : none) {
            x.act(0, 3, 9);
            D.due("count(4)", x.count(4), 14);
            acted(x, b[0], b[1], 9, 0);
        }
    }

    private static void byJava() {
        Random random = new Random(3);
        for (int run = 0; run < 40; run++) {
            LemonGate x = new LemonGate();
            List<Glass> glasses = new ArrayList<>();
            List<Integer> trace = new ArrayList<>();
            for (int n = 0; n < 50; n++) {
                int kind = random.nextInt(8);
                x.body(kind);
                glasses.add(glass(kind));
                glasses.get(n).n = n;
                glasses.get(n).trace = trace;
            }
            for (int call = 0; call < 200; call++) {
                int body = random.nextInt(50), act = random.nextInt(4), v = random.nextInt() >> random.nextInt(32);
                trace.clear();
                int want = ask(glasses.get(body), act, v);
                acted(x, body, act, v, want, trace.stream().mapToInt(i -> i).toArray());
            }
        }
    }

    private static int ask(Glass g, int act, int v) {
        return act == 0 ? g.makes(v) : act == 1 ? g.sells(v) : act == 2 ? g.shares(v) : g.tells(v);
    }

    private static Glass glass(int kind) {
        switch (kind) {
            case 0:
                return new Glass();
            case 1:
                return new Sold();
            case 2:
                return new Drunk();
            case 3:
                return new Spilt();
            case 4:
                return new Given();
            case 5:
                return new Sour();
            case 6:
                return new Lost();
            default:
                return new Overpaid();
        }
    }

    private interface Makes {
        int begin(int number);

        default int makes(int x) {
            return x + begin(1);
        }
    }

    private interface Tells {
        int begin(int number);

        int sells(int x);

        int shares(int x);

        default int tells(int x) {
            begin(2);
            return sells(x) - shares(1);
        }
    }

    private static class Glass implements Makes, Tells {
        int n;
        List<Integer> trace;

        public int begin(int number) {
            trace.add(number);
            return n;
        }

        public int sells(int x) {
            begin(10);
            return makes(x) * 2;
        }

        public int shares(int x) {
            return x ^ begin(11);
        }
    }

    private static class Sold extends Glass {
        public int makes(int x) {
            begin(20);
            return super.makes(x) + 3;
        }
    }

    private static class Drunk extends Glass {
        public int sells(int x) {
            begin(30);
            return -super.sells(x);
        }
    }

    private static class Spilt extends Drunk {
        public int shares(int x) {
            begin(40);
            return super.shares(x) * 3;
        }

        public int sells(int x) {
            begin(41);
            return super.sells(x + 1);
        }
    }

    private static class Given extends Sold {
        public int shares(int x) {
            begin(50);
            return super.shares(x) - makes(2);
        }
    }

    private static class Sour extends Spilt {
        public int tells(int x) {
            begin(60);
            return super.tells(x) ^ 5;
        }
    }

    private static class Lost extends Glass {
        public int makes(int x) {
            begin(70);
            return super.makes(x) * 2;
        }
    }

    private static class Overpaid extends Given {
        public int sells(int x) {
            begin(80);
            return super.sells(x) + shares(2);
        }

        public int tells(int x) {
            begin(81);
            return super.tells(x) - 1;
        }
    }
}
