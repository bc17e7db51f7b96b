import com.sun.management.ThreadMXBean;
import java.lang.management.ManagementFactory;
import java.util.Random;

/** All promises: no call throws whatever it is told, the same calls answer the same, and no call makes objects. */
public final class HardTest {
    private static final Due D = new Due();

    public static void main(String[] args) {
        for (int run = 0; run < 300; run++) {
            Random one = new Random(run), other = new Random(run);
            LemonGate x = new LemonGate(), y = new LemonGate();
            for (int call = 0; call < 512; call++) {
                D.due("the same call", new AnyCall(one).on(x), new AnyCall(other).on(y));
            }
        }
        room();
        D.end();
    }

    private static void room() {
        ThreadMXBean threads = (ThreadMXBean) ManagementFactory.getThreadMXBean();
        Random random = new Random(1);
        AnyCall[] calls = new AnyCall[5000];
        for (int i = 0; i < calls.length; i++) {
            calls[i] = new AnyCall(random);
        }
        LemonGate x = new LemonGate();
        // the first round lets the machine load what it needs
        long made = 0;
        for (int round = 0; round < 2; round++) {
            long thread = Thread.currentThread().getId(), before = threads.getThreadAllocatedBytes(thread);
            for (AnyCall call : calls) {
                call.on(x);
            }
            made = threads.getThreadAllocatedBytes(thread) - before;
        }
        D.due("5000 calls made " + made + " bytes", made < 20000 ? 1 : 0, 1);
    }
}
