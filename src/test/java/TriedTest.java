import java.util.ArrayList;
import java.util.List;
import java.util.Random;

/** Promises 10 to 17 beside plainer ways: texts by another reader, days by lists of jugs, rows by trying all. */
public final class TriedTest {
    private static final Due D = new Due();
    private static final Random RANDOM = new Random(5);

    public static void main(String[] args) {
        for (int run = 0; run < 20000; run++) {
            law();
        }
        D.due("many texts are whole ones: " + whole + ", faulty: " + faulty, whole > 5000 && faulty > 5000 ? 1 : 0, 1);
        for (int run = 0; run < 400; run++) {
            days();
        }
        for (int run = 0; run < 300; run++) {
            where();
        }
        D.end();
    }

    // ---- texts

    private static int whole = 0;
    private static int faulty = 0;

    private static void law() {
        String text = RANDOM.nextInt(3) == 0 ? letters() : text();
        if (RANDOM.nextInt(2) == 0 && !text.isEmpty()) {
            int at = RANDOM.nextInt(text.length());
            text = text.substring(0, at) + letters() + text.substring(at + RANDOM.nextInt(2));
        }
        if (text.length() > 120) {
            text = text.substring(0, 120);
        }
        LemonGate x = new LemonGate();
        int[] values = {RANDOM.nextInt(10), RANDOM.nextInt(10), 1 + RANDOM.nextInt(20), RANDOM.nextInt(32), RANDOM.nextInt(41),
            0, RANDOM.nextInt(51), RANDOM.nextInt(51), RANDOM.nextInt(32)};
        int[] whats = {0, 1, 2, -1, -1, -1, 3, 4, -1};
        for (int i = 0; i < 9; i++) {
            if (whats[i] >= 0) {
                x.mend(whats[i], values[i]);
            }
        }
        x.mend(5, 32);
        x.heat(values[8], values[4]);
        int fault = fault(text);
        D.due("law of " + text, Due.tell(x, 0, text), fault < 0 ? 1 : -100 - fault);
        if (fault >= 0) {
            faulty++;
            return;
        }
        whole++;
        int taste = Math.max(0, Math.min(9, worth(text, values)));
        D.due("taste by " + text, x.taste(values[8], values[3], 0), taste);
        Due.tell(x, 1, text);
        values[5] = taste;
        D.due("buys by " + text, x.taste(values[8], values[3], 1), Math.max(0, Math.min(12, worth(text, values))));
    }

    private static String letters() {
        String of = "0123456789lsgahtpbq|&<=>+-*/%!()?; x";
        StringBuilder text = new StringBuilder();
        for (int n = RANDOM.nextInt(4); n > 0; n--) {
            text.append(of.charAt(RANDOM.nextInt(of.length())));
        }
        return text.toString();
    }

    private static String text() {
        StringBuilder text = new StringBuilder();
        int lines = 1 + RANDOM.nextInt(3);
        for (int line = 0; line < lines; line++) {
            text.append(line == 0 ? "" : ";").append(sum(3)).append(RANDOM.nextInt(2) == 0 ? "" : "?" + sum(3));
        }
        return text.toString();
    }

    private static String sum(int deep) {
        StringBuilder text = new StringBuilder(operand(deep));
        for (int n = RANDOM.nextInt(4); n > 0; n--) {
            text.append("|&<=>+-*/%".charAt(RANDOM.nextInt(10))).append(operand(deep));
        }
        return text.toString();
    }

    private static String operand(int deep) {
        switch (RANDOM.nextInt(deep > 0 ? 7 : 3)) {
            case 0:
                return "" + RANDOM.nextInt(20);
            case 1:
                return "" + RANDOM.nextInt(10000);
            case 2:
                return "" + "lsgahtpbq".charAt(RANDOM.nextInt(9));
            case 3:
                return "!" + operand(deep - 1);
            case 4:
                return "-" + operand(deep - 1);
            default:
                return "(" + sum(deep - 1) + ")";
        }
    }

    /** By a heap of what is open, letter by letter: -1, or the fault. */
    private static int fault(String text) {
        StringBuilder open = new StringBuilder();
        List<Boolean> compared = new ArrayList<>(List.of(false));
        boolean wanted = true, asked = false;
        for (int i = 0; i < text.length(); i++) {
            char c = text.charAt(i);
            int last = compared.size() - 1;
            if (wanted && (c == '(' || c == '!' || c == '-')) {
                if (open.length() == 6) {
                    return i;
                }
                open.append(c);
                if (c == '(') {
                    compared.add(false);
                }
                continue;
            }
            if (wanted) {
                boolean digit = Character.isDigit(c) && c < 128;
                if (!digit && "lsgahtpbq".indexOf(c) < 0) {
                    return i;
                }
                for (int n = 1; digit && n < 4 && i + 1 < text.length() && "0123456789".indexOf(text.charAt(i + 1)) >= 0; n++) {
                    i++;
                }
                wanted = false;
                close(open);
                continue;
            }
            if (c == ')' && open.length() > 0) {
                open.setLength(open.length() - 1);
                compared.remove(last);
                close(open);
            } else if (c == '?' && open.length() == 0 && !asked || c == ';' && open.length() == 0) {
                asked = c == '?';
                wanted = true;
                compared.set(0, false);
            } else if ("<=>".indexOf(c) >= 0 && !compared.get(last)) {
                compared.set(last, true);
                wanted = true;
            } else if ("|&".indexOf(c) >= 0) {
                compared.set(last, false);
                wanted = true;
            } else if ("+-*/%".indexOf(c) >= 0) {
                wanted = true;
            } else {
                return i;
            }
        }
        return wanted || open.length() > 0 ? text.length() : -1;
    }

    private static void close(StringBuilder open) {
        while (open.length() > 0 && open.charAt(open.length() - 1) != '(') {
            open.setLength(open.length() - 1);
        }
    }

    private static int worth(String text, int[] values) {
        for (String line : text.split(";")) {
            String[] parts = line.split("\\?");
            if (parts.length == 1) {
                return part(line, values);
            }
            if (part(parts[0], values) != 0) {
                return part(parts[1], values);
            }
        }
        return 0;
    }

    /** Split at the last sign of the loosest sort outside of brackets. */
    private static int part(String text, int[] values) {
        for (String signs : new String[] {"|", "&", "<=>", "+-", "*/%"}) {
            int open = 0;
            for (int i = text.length() - 1; i > 0; i--) {
                char c = text.charAt(i);
                open += c == ')' ? 1 : c == '(' ? -1 : 0;
                boolean behind = Character.isLetterOrDigit(text.charAt(i - 1)) || text.charAt(i - 1) == ')';
                if (open == 0 && behind && signs.indexOf(c) >= 0) {
                    return joined(c, part(text.substring(0, i), values), part(text.substring(i + 1), values));
                }
            }
        }
        char c = text.charAt(0);
        if (c == '!') {
            return part(text.substring(1), values) == 0 ? 1 : 0;
        }
        if (c == '-') {
            return -part(text.substring(1), values);
        }
        if (c == '(') {
            return part(text.substring(1, text.length() - 1), values);
        }
        int name = "lsgahtpbq".indexOf(c);
        return name >= 0 ? values[name] : Integer.parseInt(text);
    }

    private static int joined(char c, int a, int b) {
        boolean holds = c == '|' ? a != 0 | b != 0 : c == '&' ? a != 0 & b != 0 : c == '<' ? a < b : c == '>' ? a > b : a == b;
        switch (c) {
            case '+':
                return a + b;
            case '-':
                return a - b;
            case '*':
                return a * b;
            case '/':
                return b == 0 ? 0 : (int) ((long) a / b);
            case '%':
                return b == 0 ? 0 : (int) ((long) a % b);
            default:
                return holds ? 1 : 0;
        }
    }

    // ---- days

    private static void days() {
        LemonGate x = new LemonGate();
        for (int place = RANDOM.nextInt(4); place >= 0; place--) {
            x.place();
        }
        for (int n = 0; n < 40; n++) {
            int from = RANDOM.nextInt(32), to = Math.min(31, from + RANDOM.nextInt(6));
            x.flow(RANDOM.nextInt(x.count(0)), 100 * from + to, RANDOM.nextInt(10));
            x.stand(RANDOM.nextInt(x.count(0) + 1) - 1, 100 * from + to);
            x.heat(from, RANDOM.nextInt(41));
        }
        int[] most = {9, 9, 20, 50, 50, 32, 12, 9};
        for (int what = 0; what < 8; what++) {
            if (RANDOM.nextInt(3) > 0) {
                x.mend(what, RANDOM.nextInt(most[what] + 1));
            }
        }
        if (RANDOM.nextInt(3) > 0) {
            Due.tell(x, 0, "l+s-g/4-a/2+h/20-p/30+q%2");
        }
        if (RANDOM.nextInt(3) > 0) {
            Due.tell(x, 1, "p>40?1;t+h/8-p/6+b/6+q%3-a/3");
        }
        int seed = RANDOM.nextInt(4) == 0 ? RANDOM.nextInt() : RANDOM.nextInt(100);
        int[] day = day(x, seed);
        D.due("day", x.day(seed), day[0]);
        for (int what = 0; what < 8; what++) {
            D.due("told(" + what + ")", x.told(what), day[what]);
        }
        for (int quarter = 0; quarter < 32; quarter++) {
            D.due("told(" + (100 + quarter) + ")", x.told(100 + quarter), day[100 + quarter]);
            D.due("told(" + (200 + quarter) + ")", x.told(200 + quarter), day[200 + quarter]);
        }
        int best = x.best(seed, 0), jugs = x.best(seed, 1);
        D.due("best price", best, bestOf(x, seed, 3, 50));
        D.due("best jugs", jugs, bestOf(x, seed, 7, 9));
        judged(x, seed);
    }

    private static int bestOf(LemonGate x, int seed, int what, int most) {
        int was = x.of(what), best = -1, gain = 0;
        for (int v = 0; v <= most; v++) {
            x.mend(what, v);
            int now = day(x, seed)[7];
            if (best < 0 || now > gain) {
                best = v;
                gain = now;
            }
        }
        x.mend(what, was);
        return best;
    }

    private static void judged(LemonGate x, int seed) {
        int n = RANDOM.nextInt(61), want = -2;
        x.row(0, 1, n);
        int[] day = day(x, seed);
        for (int i = 0; i < n; i++) {
            int v = i < 32 && RANDOM.nextInt(12) > 0 ? day[100 + i] : RANDOM.nextInt(10);
            x.put(0, i, v);
            want = want == -2 && i < 32 && v != day[100 + i] ? i : want;
        }
        D.due("judge", x.judge(0, seed), want);
        int least = -2;
        for (int s = 99; s >= 0; s--) {
            least = x.judge(0, s) == -2 ? s : least;
        }
        D.due("seeded", x.seeded(0), least);
    }

    /** A day as told() numbers it, jug after jug in a list, each with its glasses and its age. */
    private static int[] day(LemonGate x, int seed) {
        int[] told = new int[300];
        List<int[]> jugs = new ArrayList<>();
        int z = seed;
        next(x, jugs);
        for (int quarter = 0; quarter < 32; quarter++) {
            int stand = x.of(200 + quarter), passers = stand < 0 ? 0 : x.of(1000 + 100 * stand + quarter);
            for (int draw = 0; draw <= passers; draw++) {
                z = z * 1103515245 + 12345;
                int[] jug = jugs.isEmpty() ? new int[2] : jugs.get(jugs.size() - 1);
                int below = draw == passers ? x.of(6) : jug[0] > 0 ? x.taste(quarter, jug[1], 1) : 0;
                if (jug[0] > 0 && (z >>> 8) % 12 < below) {
                    jug[0]--;
                    told[draw == passers ? 2 : 0]++;
                    told[100 + quarter] += draw == passers ? 0 : 1;
                    next(x, jugs);
                }
            }
            int[] jug = jugs.isEmpty() ? new int[2] : jugs.get(jugs.size() - 1);
            jug[1]++;
            if (jug[1] == x.of(5) && jug[0] > 0) {
                told[3] += jug[0];
                jug[0] = 0;
                next(x, jugs);
            }
        }
        told[4] = jugs.isEmpty() ? 0 : jugs.get(jugs.size() - 1)[0];
        told[5] = jugs.size();
        told[6] = jugs.size() * (3 * x.of(0) + x.of(1));
        for (int quarter = 0; quarter < 32; quarter++) {
            told[200 + quarter] = told[100 + quarter] * x.of(3);
            told[1] += told[200 + quarter];
        }
        told[7] = told[1] - told[6];
        return told;
    }

    private static void next(LemonGate x, List<int[]> jugs) {
        if (jugs.size() < x.of(7) && (jugs.isEmpty() || jugs.get(jugs.size() - 1)[0] == 0)) {
            jugs.add(new int[] {x.of(2), 0});
        }
    }

    // ---- where

    private static void where() {
        LemonGate x = new LemonGate();
        int places = 1 + RANDOM.nextInt(4), from = RANDOM.nextInt(32), to = Math.min(31, from + RANDOM.nextInt(6));
        int[][] flows = new int[places][32];
        int most = RANDOM.nextInt(3) == 0 ? 10 : 3;
        for (int place = 0; place < places; place++) {
            x.place();
            for (int quarter = 0; quarter < 32; quarter++) {
                flows[place][quarter] = RANDOM.nextInt(most);
                x.flow(place, 101 * quarter, flows[place][quarter]);
            }
        }
        best = null;
        allRows(flows, from, to, new int[32], from, 0);
        D.due("the sum", x.where(100 * from + to, -1), bestSum);
        for (int quarter = 0; quarter < 32; quarter++) {
            int want = quarter < from || quarter > to ? LemonGate.VOID : best[quarter];
            D.due("the place", x.where(100 * from + to, quarter), want);
        }
    }

    private static int[] best;
    private static int bestSum;

    private static void allRows(int[][] flows, int from, int to, int[] row, int quarter, int sum) {
        if (quarter > to) {
            if (best == null || sum > bestSum) {
                best = row.clone();
                bestSum = sum;
            }
            return;
        }
        for (int place = -1; place < flows.length; place++) {
            int before = quarter == from ? -1 : row[quarter - 1];
            if (before == -1 || place == -1 || before == place) {
                row[quarter] = place;
                allRows(flows, from, to, row, quarter + 1, sum + (place < 0 ? 0 : flows[place][quarter]));
            }
        }
    }
}
