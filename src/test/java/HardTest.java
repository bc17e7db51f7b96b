import com.sun.management.ThreadMXBean;
import java.lang.management.ManagementFactory;
import java.util.Random;

/** All promises: no call throws whatever it is told, the same calls answer the same, and no call makes objects. */
public final class HardTest {
    private static final Due D = new Due();
    private static final int[] EDGES = {Integer.MIN_VALUE, Integer.MIN_VALUE + 1, -101, -100, -2, -1, 0, 1, 2, 3, 5, 6, 7, 8, 9,
        10, 12, 13, 20, 31, 32, 33, 40, 41, 49, 50, 59, 60, 61, 99, 100, 112, 131, 132, 200, 231, 232, 303, 812, 1000, 1031, 3131,
        3132, Integer.MAX_VALUE - 1, Integer.MAX_VALUE};

    public static void main(String[] args) {
        for (int run = 0; run < 300; run++) {
            Random one = new Random(run), other = new Random(run);
            LemonGate x = new LemonGate(), y = new LemonGate();
            for (int call = 0; call < 512; call++) {
                D.due("the same call", call(x, one), call(y, other));
            }
        }
        room();
        D.end();
    }

    private static void room() {
        ThreadMXBean threads = (ThreadMXBean) ManagementFactory.getThreadMXBean();
        Random random = new Random(1);
        LemonGate x = new LemonGate();
        for (int call = 0; call < 5000; call++) {
            call(x, random);
        }
        long thread = Thread.currentThread().getId(), before = threads.getThreadAllocatedBytes(thread);
        for (int call = 0; call < 5000; call++) {
            call(x, random);
        }
        long made = threads.getThreadAllocatedBytes(thread) - before;
        D.due("5000 calls made " + made + " bytes", made < 20000 ? 1 : 0, 1);
    }

    private static int v(Random random) {
        int sort = random.nextInt(3);
        return sort == 0 ? EDGES[random.nextInt(EDGES.length)] : random.nextInt(sort == 1 ? 8 : 34) - 1;
    }

    private static long call(LemonGate x, Random r) {
        int a = v(r), b = v(r), c = v(r), d = v(r), e = v(r);
        switch (r.nextInt(39)) {
            case 0: return x.heat(a, b);
            case 1: return x.heats(a, b, c);
            case 2: return x.place();
            case 3: return x.flow(a, b, c);
            case 4: return x.stand(a, b);
            case 5: return x.mend(a, b);
            case 6: return x.of(a);
            case 7: return x.feed(r.nextInt(3) == 0 ? a : "lsgahtpbq0123456789|&<=>+-*/%!()?;".charAt(r.nextInt(34)));
            case 8: return x.law(a);
            case 9: return x.taste(a, b, c);
            case 10: return x.day(a);
            case 11: return x.told(a);
            case 12: return x.best(a, b);
            case 13: return x.where(a, b);
            case 14: return x.judge(a, b);
            case 15: return x.seeded(a);
            case 16: return x.make(a, b, c);
            case 17: return x.undercut(a, b);
            case 18: return x.brings(a, b);
            case 19: return x.minutes(a, b);
            case 20: return x.share(a, b, c);
            case 21: return x.slate(a, b);
            case 22: return x.owes(a);
            case 23: return x.wiped();
            case 24: return x.image();
            case 25: return x.back();
            case 26: return x.undo();
            case 27: return x.redo();
            case 28: return x.body(a);
            case 29: return x.act(a, b, c);
            case 30: return x.trace(a);
            case 31: return x.keep(a, b);
            case 32: return x.row(a, b, c);
            case 33: return x.row(a, r.nextInt(5), r.nextInt(61));
            case 34: return x.put(a, b, c);
            case 35: return x.element(a, b);
            case 36: return x.shift(a, b, c, d, e);
            case 37: return x.taken(a, b);
            default: return x.count(a);
        }
    }
}
