import java.util.Random;

/** What the document says of all answers: the numbers, refused calls that change nothing, objects that share nothing. */
final class EdgesOfAnswers {
    private static final int CALLS = 256;

    private final Said said;

    EdgesOfAnswers(Said said) {
        this.said = said;
    }

    void all() {
        numbers();
        refusedCalls();
        ownMemory();
        said.passesOver("Ahead of the calls `heat`, `heats`, `place`, `flow`, `stand`, `mend`, `of`, `feed`, `law`, `taste`"
                + " the interface says: ---- quarters, places, recipes.");
        said.passesOver("Ahead of the calls `day`, `told`, `best`, `where`, `judge`, `seeded` the interface says: ---- days.");
        said.passesOver("Ahead of the calls `make`, `undercut` the interface says: ---- how much, for how much.");
        said.passesOver("Ahead of the calls `brings`, `minutes`, `share`, `slate`, `owes`, `wiped`, `image`, `back`, `undo`, `redo`"
                + " the interface says: ---- shares, slates.");
        said.passesOver("Ahead of the calls `body`, `act`, `trace`, `keep`, `row`, `put`, `element`, `shift`, `taken`, `count`"
                + " the interface says: ---- acts, shelves.");
    }

    private void numbers() {
        said.says(0, "Answers, of several the one named first: BAD (-1): no such number, or it is not as said; NOT (-2): as told;"
                + " FULL (-3); STATE (-5): as told; -11 to -14.");
        said.due("BAD", LemonGate.BAD, -1);
        said.due("NOT", LemonGate.NOT, -2);
        said.due("FULL", LemonGate.FULL, -3);
        said.due("STATE", LemonGate.STATE, -5);
        LemonGate x = new LemonGate();
        said.due("BAD ahead of FULL", full().feed(256), -1);
        said.due("BAD ahead of FULL", full().body(8), -1);
        said.due("BAD ahead of STATE", x.undercut(51, 0), -1);
        said.due("VOID ahead of STATE", x.told(8), -2000000000);
        said.due("VOID ahead of STATE", x.where(32, -1), -2000000000);
        said.due("BAD ahead of -11", x.taken(0, 8), -1);
        said.due("BAD ahead of -14", x.row(0, 5, -1), -1);
        x.row(0, 1, 1);
        said.due("BAD ahead of -12", x.heats(0, 0, 0), -1);
        said.due("-11 ahead of -12", x.shift(0, 0, 1, 0, 0), -11);
        said.due("-11 ahead of -13", x.put(1, -1, 0), -11);
        x.row(1, 2, 1);
        said.due("-12 ahead of -13", x.shift(0, -1, 1, 0, 0), -12);
        said.says(0, "VOID is -2000000000.");
        said.due("VOID", LemonGate.VOID, -2000000000);
        said.due("of(10)", x.of(10), -2000000000);
    }

    /** An object whose tape and bodies are full. */
    private static LemonGate full() {
        LemonGate x = new LemonGate();
        for (int n = 0; n < 120; n++) {
            x.feed('1');
            x.body(0);
        }
        return x;
    }

    /** One object is asked all calls, another one all but those that the first one refuses. */
    private void refusedCalls() {
        said.says(0, "What is answered so changes nothing.");
        int refused = 0;
        for (int run = 0; run < 400; run++) {
            Random random = new Random(run);
            LemonGate x = new LemonGate(), y = new LemonGate();
            for (int n = 0; n < 2 * CALLS; n++) {
                AnyCall call = new AnyCall(random);
                long answer = call.on(x);
                if (n < CALLS && call.isRefused(answer)) {
                    refused++;
                } else {
                    said.due("run " + run + ", " + n + ": " + call, call.on(y), answer);
                }
            }
        }
        said.due("many were refused", refused > 10000 ? 1 : 0, 1);
    }

    /** Two objects by turns, and each of them alone. */
    private void ownMemory() {
        said.says(0, "All memory is the class's own.");
        for (int run = 0; run < 100; run++) {
            Random one = new Random(run), other = new Random(-1 - run);
            Random oneAgain = new Random(run), otherAgain = new Random(-1 - run);
            LemonGate x = new LemonGate(), y = new LemonGate(), alone = new LemonGate(), otherAlone = new LemonGate();
            long[] answers = new long[2 * CALLS], otherAnswers = new long[2 * CALLS];
            for (int n = 0; n < 2 * CALLS; n++) {
                answers[n] = new AnyCall(one).on(x);
                otherAnswers[n] = new AnyCall(other).on(y);
            }
            for (int n = 0; n < 2 * CALLS; n++) {
                said.due("run " + run + ", " + n, new AnyCall(oneAgain).on(alone), answers[n]);
            }
            for (int n = 0; n < 2 * CALLS; n++) {
                said.due("run " + run + ", " + n, new AnyCall(otherAgain).on(otherAlone), otherAnswers[n]);
            }
        }
    }
}
