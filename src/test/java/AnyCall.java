import java.util.Random;

/** One call of the face, drawn, that can be made on any object. */
final class AnyCall {
    private static final int[] EDGES = {Integer.MIN_VALUE, Integer.MIN_VALUE + 1, -101, -100, -2, -1, 0, 1, 2, 3, 5, 6, 7, 8, 9,
        10, 12, 13, 20, 31, 32, 33, 40, 41, 49, 50, 59, 60, 61, 99, 100, 112, 131, 132, 200, 231, 232, 303, 812, 1000, 1031, 3131,
        3132, Integer.MAX_VALUE - 1, Integer.MAX_VALUE};
    private static final String LETTERS = "lsgahtpbq0123456789|&<=>+-*/%!()?;";

    private final int a;
    private final int b;
    private final int c;
    private final int d;
    private final int e;
    private final int letter;
    private final int which;

    AnyCall(Random random) {
        a = number(random);
        b = number(random);
        c = number(random);
        d = number(random);
        e = number(random);
        letter = random.nextInt(3) == 0 ? a : LETTERS.charAt(random.nextInt(LETTERS.length()));
        which = random.nextInt(39);
    }

    private static int number(Random random) {
        int sort = random.nextInt(3);
        return sort == 0 ? EDGES[random.nextInt(EDGES.length)] : random.nextInt(sort == 1 ? 8 : 34) - 1;
    }

    /** Whether an answer of it is one that changes nothing: an act may answer any int. */
    boolean isRefused(long answer) {
        boolean isNamed = answer == LemonGate.BAD || answer == LemonGate.NOT || answer == LemonGate.FULL || answer == LemonGate.STATE
                || answer <= -11 && answer >= -14 || answer == LemonGate.VOID || answer == Long.MIN_VALUE;
        return isNamed && which != 29;
    }

    long on(LemonGate x) {
        switch (which) {
            case 0: return x.heat(a, b);
            case 1: return x.heats(a, b, c);
            case 2: return x.place();
            case 3: return x.flow(a, b, c);
            case 4: return x.stand(a, b);
            case 5: return x.mend(a, b);
            case 6: return x.of(a);
            case 7: return x.feed(letter);
            case 8: return x.law(a);
            case 9: return x.taste(a, b, c);
            case 10: return x.day(a);
            case 11: return x.told(a);
            case 12: return x.best(a, b);
            case 13: return x.where(a, b);
            case 14: return x.judge(a, b);
            case 15: return x.seeded(a);
            case 16: return x.make(a, b, c);
            case 17: return x.undercut(a, b);
            case 18: return x.brings(a, b);
            case 19: return x.minutes(a, b);
            case 20: return x.share(a, b, c);
            case 21: return x.slate(a, b);
            case 22: return x.owes(a);
            case 23: return x.wiped();
            case 24: return x.image();
            case 25: return x.back();
            case 26: return x.undo();
            case 27: return x.redo();
            case 28: return x.body(a);
            case 29: return x.act(a, b, c);
            case 30: return x.trace(a);
            case 31: return x.keep(a, b);
            case 32: return x.row(a, b, c);
            case 33: return x.row(a, (d & Integer.MAX_VALUE) % 5, (e & Integer.MAX_VALUE) % 61);
            case 34: return x.put(a, b, c);
            case 35: return x.element(a, b);
            case 36: return x.shift(a, b, c, d, e);
            case 37: return x.taken(a, b);
            default: return x.count(a);
        }
    }

    @Override
    public String toString() {
        return "call " + which + " of " + a + ", " + b + ", " + c + ", " + d + ", " + e;
    }
}
