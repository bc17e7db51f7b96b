import java.util.Arrays;

/** Lemonade at a gate, as the document LemonGate tells it, promise by promise. */
public final class LemonGate {
    public static final int BAD = -1, NOT = -2, FULL = -3, STATE = -5, VOID = -2000000000;

    private static final int NOTHING_THERE = -11, OTHER_KIND = -12, NO_SUCH_PLACE = -13, SIZE_BELOW_0 = -14;
    private static final int QUARTERS = 32, PLACES = 4, NOWHERE = -1, HOTTEST = 40, BUSIEST = 9;
    private static final int LEMONS = 0, SUGAR = 1, GLASSES = 2, PRICE = 3, BOYS = 4, SOUR = 5, LITTLE = 6, JUGS = 7;
    private static final int DEAREST = 50, MOST_JUGS = 9, OLDEST = 32, TWELVE = 12;
    private static final int SHELVES = 6, BYTES = 0, SHORTS = 1, SORTS = 5, LONGEST_ROW = 60, SEEDS = 100;

    private final Recipe recipe = new Recipe();
    private final Street street = new Street();
    private final Tape tape = new Tape();
    private final Laws laws = new Laws();
    private final Day latest = new Day();
    // best(), judge() and seeded() look at days that told() must not show
    private final Day tried = new Day();
    private boolean hasDay;
    private final Three three = new Three();
    private final Slates slates = new Slates();
    private final Glasses glasses = new Glasses();
    private final Shelf[] shelves = new Shelf[SHELVES];

    public LemonGate() {
        for (int i = 0; i < SHELVES; i++) {
            shelves[i] = new Shelf();
        }
    }

    // ---- quarters, places, recipes

    public int heat(int quarter, int v) {
        if (!isQuarter(quarter) || !isWithin(v, 0, HOTTEST)) {
            return BAD;
        }
        int was = street.heats[quarter];
        street.heats[quarter] = v;
        return was;
    }

    public int heats(int shelf, int i, int qn) {
        Shelf from = shelfAt(shelf);
        if (from == null || qn < 0 || !isQuarter(qn / 100) || !isWithin(qn % 100, 1, QUARTERS)) {
            return BAD;
        }
        if (from.isEmpty()) {
            return 0;
        }
        if (!from.isRowOf(BYTES)) {
            return OTHER_KIND;
        }
        return heatsCome(from, i, qn / 100, qn % 100);
    }

    public int place() {
        if (street.places >= PLACES) {
            return FULL;
        }
        return street.places++;
    }

    public int flow(int place, int ft, int v) {
        if (!street.isPlace(place) || !isSpan(ft) || !isWithin(v, 0, BUSIEST)) {
            return BAD;
        }
        for (int quarter = ft / 100; quarter <= ft % 100; quarter++) {
            street.flows[place * QUARTERS + quarter] = v;
        }
        return ft % 100 - ft / 100 + 1;
    }

    public int stand(int place, int ft) {
        if (place != NOWHERE && !street.isPlace(place) || !isSpan(ft)) {
            return BAD;
        }
        for (int quarter = ft / 100; quarter <= ft % 100; quarter++) {
            street.stands[quarter] = place;
        }
        return ft % 100 - ft / 100 + 1;
    }

    public int mend(int what, int v) {
        return recipe.allows(what, v) ? recipe.change(what, v) : BAD;
    }

    public int of(int what) {
        if (isWithin(what, 0, JUGS)) {
            return recipe.now[what];
        }
        if (what == 8) {
            return recipe.jugCost();
        }
        if (what == 9) {
            return recipe.glassCost();
        }
        if (isQuarter(what - 100)) {
            return street.heats[what - 100];
        }
        if (isQuarter(what - 200)) {
            return street.stands[what - 200];
        }
        if (what >= 1000 && street.isPlace((what - 1000) / 100) && isQuarter(what % 100)) {
            return street.flowAt((what - 1000) / 100, what % 100);
        }
        return VOID;
    }

    public int feed(int letter) {
        if (!isWithin(letter, 0, 255)) {
            return BAD;
        }
        return tape.add(letter) ? tape.length : FULL;
    }

    public int law(int which) {
        if (!isWithin(which, 0, 1)) {
            return BAD;
        }
        int fault = tape.read();
        if (fault < 0) {
            laws.become(which, tape);
        }
        tape.clear();
        return fault < 0 ? 1 : -100 - fault;
    }

    public int taste(int quarter, int age, int what) {
        if (!isQuarter(quarter) || !isWithin(age, 0, OLDEST) || !isWithin(what, 0, 1)) {
            return BAD;
        }
        laws.begin(recipe, recipe.now[PRICE]);
        int heat = street.heats[quarter];
        return what == 0 ? laws.tasteOf(quarter, heat, age) : laws.buysOf(quarter, heat, age);
    }

    // ---- days

    public int day(int seed) {
        laws.begin(recipe, recipe.now[PRICE]);
        spend(latest, seed, recipe.now[PRICE], recipe.now[JUGS]);
        hasDay = true;
        return latest.sold;
    }

    public int told(int what) {
        boolean sold = isQuarter(what - 100), paid = isQuarter(what - 200);
        if (!isWithin(what, 0, 7) && !sold && !paid) {
            return VOID;
        }
        if (!hasDay) {
            return STATE;
        }
        if (sold) {
            return latest.soldIn[what - 100];
        }
        return paid ? latest.soldIn[what - 200] * latest.price : latest.total(what);
    }

    public int best(int seed, int what) {
        if (!isWithin(what, 0, 1)) {
            return BAD;
        }
        int most = what == 0 ? DEAREST : MOST_JUGS, best = 0, gain = 0;
        for (int tries = 0; tries <= most; tries++) {
            int price = what == 0 ? tries : recipe.now[PRICE], jugs = what == 0 ? recipe.now[JUGS] : tries;
            // by the laws, more jugs change nothing: what was found for the price holds on
            if (what == 0 || tries == 0) {
                laws.begin(recipe, price);
            }
            spend(tried, seed, price, jugs);
            if (tries == 0 || tried.gain() > gain) {
                best = tries;
                gain = tried.gain();
            }
        }
        return best;
    }

    public int where(int ft, int q) {
        if (!isSpan(ft) || q != -1 && !isWithin(q, ft / 100, ft % 100)) {
            return VOID;
        }
        if (street.places == 0) {
            return STATE;
        }
        street.lookAhead(ft / 100, ft % 100);
        return q == -1 ? street.mostFrom(NOWHERE, ft / 100) : street.placeIn(ft / 100, q);
    }

    public int judge(int shelf, int seed) {
        Shelf row = shelfAt(shelf);
        if (row == null) {
            return BAD;
        }
        int refusal = row.refusalOfSort(SHORTS);
        if (refusal != 0) {
            return refusal;
        }
        laws.begin(recipe, recipe.now[PRICE]);
        return firstWrong(row, seed);
    }

    public int seeded(int shelf) {
        Shelf row = shelfAt(shelf);
        if (row == null) {
            return BAD;
        }
        int refusal = row.refusalOfSort(SHORTS);
        if (refusal != 0) {
            return refusal;
        }
        laws.begin(recipe, recipe.now[PRICE]);
        for (int seed = 0; seed < SEEDS; seed++) {
            if (firstWrong(row, seed) == NOT) {
                return seed;
            }
        }
        return NOT;
    }

    // ---- how much, for how much

    public long make(int nx, int c, int what) {
        if (nx < 0 || nx / 100 > 8 || nx % 100 > TWELVE || !isWithin(c, 0, 99) || !isWithin(what, 0, 2)) {
            return Long.MIN_VALUE;
        }
        int n = nx / 100, x = nx % 100, most = 0;
        for (int glasses = 1; glasses <= n; glasses++) {
            if (meanGain(n, x, c, glasses) > meanGain(n, x, c, most)) {
                most = glasses;
            }
        }
        if (what == 0) {
            return most;
        }
        long above = meanGain(n, x, c, most), below = Sums.power(TWELVE, n);
        return (what == 1 ? above : below) / Sums.divisor(above, below);
    }

    public int undercut(int boy, int what) {
        if (!isWithin(boy, 0, DEAREST) || !isWithin(what, 0, 2)) {
            return BAD;
        }
        int price = recipe.now[PRICE], boys = recipe.now[BOYS], cost = recipe.glassCost(), times = 0;
        if (boys == 0) {
            return STATE;
        }
        // what is asked falls by 1 each time, from DEAREST at most
        while (times <= DEAREST) {
            boolean isBoys = times % 2 == 0;
            int asked = (isBoys ? price : boys) - 1;
            if (asked < (isBoys ? boy : cost)) {
                break;
            }
            price = isBoys ? price : asked;
            boys = isBoys ? asked : boys;
            times++;
        }
        return what == 0 ? times : what == 1 ? price : boys;
    }

    // ---- shares, slates

    public int brings(int set, int v) {
        if (!isWithin(set, 1, Three.ALL) || !isWithin(v, 0, 999)) {
            return BAD;
        }
        int was = three.brought[set];
        three.brought[set] = v;
        return was;
    }

    public int minutes(int who, int v) {
        if (!isWithin(who, 0, 2) || !isWithin(v, 0, 600)) {
            return BAD;
        }
        int was = three.worked[who];
        three.worked[who] = v;
        return was;
    }

    public int share(int who, int how, int part) {
        if (!isWithin(who, 0, 2) || !isWithin(how, 0, 2) || !isWithin(part, 0, 1)) {
            return VOID;
        }
        int above = three.above(who, how), below = three.below(how);
        return (int) ((part == 0 ? above : below) / Sums.divisor(above, below));
    }

    public int slate(int ab, int v) {
        int a = ab / 10, b = ab % 10;
        if (!Slates.isName(a) || !Slates.isName(b) || a == b || !isWithin(v, 0, 999)) {
            return BAD;
        }
        return slates.write(a, b, v);
    }

    public int owes(int name) {
        return Slates.isName(name) ? slates.balance(name) : VOID;
    }

    public int wiped() {
        return slates.fewestPayments();
    }

    public int image() {
        street.keepImage();
        return street.sumOfHeats();
    }

    public int back() {
        if (!street.hasImage) {
            return STATE;
        }
        street.takeImage();
        return street.sumOfHeats();
    }

    public int undo() {
        return recipe.takeBack() ? recipe.done : STATE;
    }

    public int redo() {
        return recipe.doAgain() ? recipe.known - recipe.done : STATE;
    }

    // ---- acts, shelves

    public int body(int kind) {
        if (!isWithin(kind, 0, Glasses.KINDS - 1)) {
            return BAD;
        }
        return glasses.add(kind) ? glasses.size - 1 : FULL;
    }

    public int act(int body, int act, int x) {
        return glasses.enact(body, act, x);
    }

    public int trace(int i) {
        return isWithin(i, 0, glasses.begunKept() - 1) ? glasses.ran[i] : BAD;
    }

    public int keep(int shelf, int body) {
        Shelf to = shelfAt(shelf);
        if (to == null || body != -1 && !glasses.has(body)) {
            return BAD;
        }
        to.holdGlass(body);
        return 1;
    }

    public int row(int shelf, int sort, int n) {
        Shelf to = shelfAt(shelf);
        if (to == null || !isWithin(sort, 0, SORTS - 1) || n > LONGEST_ROW) {
            return BAD;
        }
        if (n < 0) {
            return SIZE_BELOW_0;
        }
        to.holdRow(sort, n);
        return 1;
    }

    public int put(int shelf, int i, long v) {
        Shelf to = shelfAt(shelf);
        if (to == null) {
            return BAD;
        }
        int refusal = to.refusalOfPlaces(i, 1);
        if (refusal != 0) {
            return refusal;
        }
        to.write(i, v);
        return 1;
    }

    public long element(int shelf, int i) {
        Shelf from = shelfAt(shelf);
        if (from == null || from.refusalOfPlaces(i, 1) != 0) {
            return Long.MIN_VALUE;
        }
        return from.elements[i];
    }

    public int shift(int shelf, int i, int other, int j, int n) {
        Shelf from = shelfAt(shelf), to = shelfAt(other);
        if (from == null || to == null) {
            return BAD;
        }
        if (from.isEmpty() || to.isEmpty()) {
            return NOTHING_THERE;
        }
        if (!from.isRowOf(to.sort)) {
            return OTHER_KIND;
        }
        if (!from.hasPlaces(i, n) || !to.hasPlaces(j, n)) {
            return NO_SUCH_PLACE;
        }
        System.arraycopy(from.elements, i, to.elements, j, n);
        return n;
    }

    public int taken(int shelf, int k) {
        Shelf from = shelfAt(shelf);
        if (from == null || !isWithin(k, 0, Glasses.KINDS - 1)) {
            return BAD;
        }
        if (from.isEmpty()) {
            return NOTHING_THERE;
        }
        if (!glasses.has(from.body) || !glasses.isUnder(from.body, k)) {
            return OTHER_KIND;
        }
        return glasses.kinds[from.body];
    }

    public int count(int what) {
        switch (what) {
            case 0:
                return street.places;
            case 1:
                return tape.length;
            case 2:
                return recipe.done;
            case 3:
                return glasses.size;
            case 4:
                return glasses.begun;
            default:
                return BAD;
        }
    }

    // ---- what the calls above share

    private static boolean isWithin(int v, int least, int most) {
        return v >= least && v <= most;
    }

    private static boolean isQuarter(int quarter) {
        return isWithin(quarter, 0, QUARTERS - 1);
    }

    private static boolean isSpan(int ft) {
        return ft >= 0 && isQuarter(ft % 100) && ft / 100 <= ft % 100;
    }

    private Shelf shelfAt(int shelf) {
        return isWithin(shelf, 0, SHELVES - 1) ? shelves[shelf] : null;
    }

    private int heatsCome(Shelf from, int i, int quarter, int n) {
        int came = 0;
        while (came < n && isQuarter(quarter + came) && from.hasPlaces(i, came + 1)
                && isWithin((int) from.elements[i + came], 0, HOTTEST)) {
            street.heats[quarter + came] = (int) from.elements[i + came];
            came++;
        }
        return came;
    }

    private void spend(Day day, int seed, int price, int jugs) {
        day.begin(seed, recipe, price, jugs);
        for (int quarter = 0; quarter < QUARTERS; quarter++) {
            day.pass(quarter, street, laws);
        }
    }

    // laws.begin() must have been called: seeded() does it once for all its days
    private int firstWrong(Shelf row, int seed) {
        tried.begin(seed, recipe, recipe.now[PRICE], recipe.now[JUGS]);
        for (int quarter = 0; quarter < QUARTERS && quarter < row.length; quarter++) {
            tried.pass(quarter, street, laws);
            if (tried.soldIn[quarter] != row.elements[quarter]) {
                return quarter;
            }
        }
        return NOT;
    }

    private long meanGain(int n, int x, int c, int glasses) {
        return recipe.now[PRICE] * Sums.meanSold(n, x, glasses) - c * glasses * Sums.power(TWELVE, n);
    }

    /** The eight numbers that can be mended, and the changes of them that can be undone. */
    private static final class Recipe {
        private static final int KEPT = 40;
        private static final int[] LEAST = {0, 0, 1, 0, 0, 1, 0, 0};
        private static final int[] MOST = {9, 9, 20, 50, 50, 32, 12, 9};

        final int[] now = {3, 3, 10, 10, 0, 8, 3, 3};
        private final int[] whats = new int[KEPT];
        private final int[] olds = new int[KEPT];
        private final int[] news = new int[KEPT];
        // of the known changes the first done ones hold, those behind them have been undone
        int done;
        int known;

        boolean allows(int what, int v) {
            return isWithin(what, 0, JUGS) && isWithin(v, LEAST[what], MOST[what]);
        }

        int change(int what, int v) {
            int was = now[what];
            if (was != v) {
                remember(what, was, v);
                now[what] = v;
            }
            return was;
        }

        private void remember(int what, int was, int v) {
            if (done == KEPT) {
                forgetOldest();
            }
            whats[done] = what;
            olds[done] = was;
            news[done] = v;
            done++;
            known = done;
        }

        private void forgetOldest() {
            System.arraycopy(whats, 1, whats, 0, KEPT - 1);
            System.arraycopy(olds, 1, olds, 0, KEPT - 1);
            System.arraycopy(news, 1, news, 0, KEPT - 1);
            done--;
        }

        boolean takeBack() {
            if (done == 0) {
                return false;
            }
            done--;
            now[whats[done]] = olds[done];
            return true;
        }

        boolean doAgain() {
            if (done == known) {
                return false;
            }
            now[whats[done]] = news[done];
            done++;
            return true;
        }

        int jugCost() {
            return 3 * now[LEMONS] + now[SUGAR];
        }

        // LEAST keeps GLASSES above 0
        int glassCost() {
            return now[GLASSES] > 0 ? jugCost() / now[GLASSES] : 0;
        }
    }

    /** Heat, places, who passes them, where the stand is by quarters. */
    private static final class Street {
        // of one quarter in the table of WHERE: nowhere and each place
        private static final int WIDTH = PLACES + 1;

        final int[] heats = new int[QUARTERS];
        final int[] stands = new int[QUARTERS];
        final int[] flows = new int[PLACES * QUARTERS];
        int places;
        private final int[] imageHeats = new int[QUARTERS];
        private final int[] imageStands = new int[QUARTERS];
        boolean hasImage;
        // the most flow from a quarter on, if it is spent at a place
        private final int[] ahead = new int[QUARTERS * WIDTH];

        Street() {
            Arrays.fill(heats, 20);
        }

        boolean isPlace(int place) {
            return isWithin(place, 0, places - 1);
        }

        int flowAt(int place, int quarter) {
            return isPlace(place) && isQuarter(quarter) ? flows[place * QUARTERS + quarter] : 0;
        }

        int passers(int quarter) {
            return isQuarter(quarter) ? flowAt(stands[quarter], quarter) : 0;
        }

        int sumOfHeats() {
            int sum = 0;
            for (int heat : heats) {
                sum += heat;
            }
            return sum;
        }

        void keepImage() {
            System.arraycopy(heats, 0, imageHeats, 0, QUARTERS);
            System.arraycopy(stands, 0, imageStands, 0, QUARTERS);
            hasImage = true;
        }

        void takeImage() {
            System.arraycopy(imageHeats, 0, heats, 0, QUARTERS);
            System.arraycopy(imageStands, 0, stands, 0, QUARTERS);
        }

        // from the last quarter to the first one, so that each finds what comes behind it
        void lookAhead(int first, int last) {
            for (int quarter = last; quarter >= first; quarter--) {
                for (int place = NOWHERE; place < places; place++) {
                    int behind = quarter == last ? 0 : mostFrom(place, quarter + 1);
                    ahead[quarter * WIDTH + place + 1] = flowAt(place, quarter) + behind;
                }
            }
        }

        int mostFrom(int place, int quarter) {
            int most = 0;
            for (int next = NOWHERE; next < places; next++) {
                if (isNext(place, next)) {
                    most = Math.max(most, ahead[quarter * WIDTH + next + 1]);
                }
            }
            return most;
        }

        // ahead of the first quarter stands nowhere: every place may follow it
        int placeIn(int first, int wanted) {
            int place = NOWHERE;
            for (int quarter = first; quarter <= wanted; quarter++) {
                place = firstOfMost(place, quarter);
            }
            return place;
        }

        private int firstOfMost(int place, int quarter) {
            int most = mostFrom(place, quarter);
            for (int next = NOWHERE; next < places; next++) {
                if (isNext(place, next) && ahead[quarter * WIDTH + next + 1] == most) {
                    return next;
                }
            }
            return NOWHERE;
        }

        private static boolean isNext(int place, int next) {
            return place == NOWHERE || next == NOWHERE || place == next;
        }
    }

    /** The bytes fed, and how they are read: as steps for a stack, each operator behind its operands. */
    private static final class Tape {
        static final int LONGEST = 120;
        // steps that are no letter's own: a minus ahead, the end of a line without and with a first E
        static final int LINE = -';', LINE_IF = -'?', OPPOSITE = -'~', DENIED = -'!';
        private static final int DEEPEST = 6, END = -1;
        private static final char[] NAMES = {'l', 's', 'g', 'a', 'h', 't', 'p', 'b', 'q'};

        private final int[] letters = new int[LONGEST];
        int length;
        // a number is its own step, a name is -1 less its place in NAMES, an operator is its letter below 0
        final int[] steps = new int[Law.MOST_STEPS];
        int made;
        private int place;

        boolean add(int letter) {
            if (length >= LONGEST) {
                return false;
            }
            letters[length] = letter;
            length++;
            return true;
        }

        void clear() {
            length = 0;
        }

        /** Makes the steps: -1, or the place of the fault. */
        int read() {
            boolean fits = true, more = true;
            place = 0;
            made = 0;
            for (int lines = 0; fits && more && lines <= LONGEST; lines++) {
                fits = readLine();
                more = fits && took(';');
            }
            return fits && place == length ? -1 : place;
        }

        // each reader below leaves place at the fault if it answers false

        private boolean readLine() {
            if (!readEither(0)) {
                return false;
            }
            if (!took('?')) {
                return step(LINE);
            }
            return readEither(0) && step(LINE_IF);
        }

        private boolean readEither(int open) {
            boolean fits = readBoth(open);
            for (int n = 0; n < LONGEST && fits && took('|'); n++) {
                fits = readBoth(open) && step(-'|');
            }
            return fits;
        }

        private boolean readBoth(int open) {
            boolean fits = readCompared(open);
            for (int n = 0; n < LONGEST && fits && took('&'); n++) {
                fits = readCompared(open) && step(-'&');
            }
            return fits;
        }

        private boolean readCompared(int open) {
            if (!readSum(open)) {
                return false;
            }
            int sign = next();
            if (sign != '<' && sign != '=' && sign != '>') {
                return true;
            }
            place++;
            return readSum(open) && step(-sign);
        }

        private boolean readSum(int open) {
            boolean fits = readProduct(open);
            int sign = next();
            for (int n = 0; n < LONGEST && fits && (sign == '+' || sign == '-'); n++) {
                place++;
                fits = readProduct(open) && step(-sign);
                sign = next();
            }
            return fits;
        }

        private boolean readProduct(int open) {
            boolean fits = readOperand(open);
            int sign = next();
            for (int n = 0; n < LONGEST && fits && (sign == '*' || sign == '/' || sign == '%'); n++) {
                place++;
                fits = readOperand(open) && step(-sign);
                sign = next();
            }
            return fits;
        }

        // what is open counts against DEEPEST, and so bounds the recursion
        private boolean readOperand(int open) {
            int letter = next();
            if (isDigit(letter)) {
                return readNumber();
            }
            if (letter != '(' && letter != '!' && letter != '-') {
                return readName(letter);
            }
            if (open >= DEEPEST) {
                return false;
            }
            place++;
            if (letter == '(') {
                return readEither(open + 1) && took(')');
            }
            return readOperand(open + 1) && step(letter == '!' ? DENIED : OPPOSITE);
        }

        private boolean readNumber() {
            int number = 0;
            for (int digits = 0; digits < 4 && isDigit(next()); digits++) {
                number = number * 10 + next() - '0';
                place++;
            }
            return step(number);
        }

        private boolean readName(int letter) {
            for (int name = 0; name < NAMES.length; name++) {
                if (NAMES[name] == letter) {
                    place++;
                    return step(-1 - name);
                }
            }
            return false;
        }

        private boolean step(int step) {
            if (made >= steps.length) {
                return false;
            }
            steps[made] = step;
            made++;
            return true;
        }

        private int next() {
            return place < length ? letters[place] : END;
        }

        private boolean took(int letter) {
            if (next() != letter) {
                return false;
            }
            place++;
            return true;
        }

        private static boolean isDigit(int letter) {
            return letter >= '0' && letter <= '9';
        }
    }

    /** One text that was read whole, ready to be worked out. */
    private static final class Law {
        // a step is made by a byte of the tape or by its end, and leaves at most one number more
        static final int MOST_STEPS = Tape.LONGEST + 1;

        private final int[] steps = new int[MOST_STEPS];
        private final int[] stack = new int[MOST_STEPS];
        private int length;
        boolean isTold;

        void become(Tape tape) {
            length = Math.min(tape.made, MOST_STEPS);
            System.arraycopy(tape.steps, 0, steps, 0, length);
            isTold = true;
        }

        int worth(int[] names) {
            int top = 0;
            for (int i = 0; i < length && top < MOST_STEPS; i++) {
                int step = steps[i], name = -1 - step;
                if (step >= 0 || name < names.length) {
                    stack[top] = step >= 0 ? step : names[name];
                    top++;
                } else if (isLineThatCounts(step, top)) {
                    return stack[top - 1];
                } else if (step == Tape.LINE || step == Tape.LINE_IF) {
                    top = 0;
                } else if (top > 0 && step == Tape.DENIED) {
                    stack[top - 1] = stack[top - 1] == 0 ? 1 : 0;
                } else if (top > 0 && step == Tape.OPPOSITE) {
                    stack[top - 1] = -stack[top - 1];
                } else if (top > 1) {
                    stack[top - 2] = joined(-step, stack[top - 2], stack[top - 1]);
                    top--;
                }
            }
            return 0;
        }

        private boolean isLineThatCounts(int step, int top) {
            return step == Tape.LINE ? top > 0 : step == Tape.LINE_IF && top > 1 && stack[top - 2] != 0;
        }

        private static int joined(int sign, int a, int b) {
            switch (sign) {
                case '+':
                    return a + b;
                case '-':
                    return a - b;
                case '*':
                    return a * b;
                case '/':
                    return b == 0 ? 0 : a / b;
                case '%':
                    return b == 0 ? 0 : a % b;
                case '<':
                    return a < b ? 1 : 0;
                case '=':
                    return a == b ? 1 : 0;
                case '>':
                    return a > b ? 1 : 0;
                case '&':
                    return a != 0 && b != 0 ? 1 : 0;
                default:
                    return a != 0 || b != 0 ? 1 : 0;
            }
        }
    }

    /** The two laws, the numbers that their names stand for, and what was found by them. */
    private static final class Laws {
        private static final int A = 3, H = 4, T = 5, P = 6, B = 7, Q = 8;
        private static final int AGES = OLDEST + 1, UNKNOWN = -1;

        private final Law taste = new Law();
        private final Law buys = new Law();
        private final int[] names = new int[Tape.NAMES.length];
        private int sour;
        // many days ask the same again: seeded() spends a hundred of them
        private final int[] found = new int[QUARTERS * AGES];

        void become(int which, Tape tape) {
            if (which == 0) {
                taste.become(tape);
            } else {
                buys.become(tape);
            }
        }

        /** What was found before holds no longer; the price may be another one than the recipe's. */
        void begin(Recipe recipe, int price) {
            System.arraycopy(recipe.now, 0, names, 0, 3);
            names[P] = price;
            names[B] = recipe.now[BOYS];
            sour = recipe.now[SOUR];
            Arrays.fill(found, UNKNOWN);
        }

        int tasteOf(int quarter, int heat, int age) {
            if (age >= sour) {
                return 0;
            }
            look(quarter, heat, age, 0);
            int plain = names[LEMONS] + names[SUGAR] - names[GLASSES] / 3;
            return held(taste.isTold ? taste.worth(names) : plain, 9);
        }

        int buysOf(int quarter, int heat, int age) {
            if (!isQuarter(quarter) || !isWithin(age, 0, OLDEST)) {
                return 0;
            }
            int at = quarter * AGES + age;
            if (found[at] == UNKNOWN) {
                int tasted = tasteOf(quarter, heat, age);
                look(quarter, heat, age, tasted);
                int plain = tasted + heat / 5 - names[P] / 4 + names[B] / 4;
                found[at] = held(buys.isTold ? buys.worth(names) : plain, TWELVE);
            }
            return found[at];
        }

        private void look(int quarter, int heat, int age, int tasted) {
            names[A] = age;
            names[H] = heat;
            names[T] = tasted;
            names[Q] = quarter;
        }

        private static int held(int v, int most) {
            return Math.max(0, Math.min(most, v));
        }
    }

    /** One day, quarter by quarter. */
    private static final class Day {
        final int[] soldIn = new int[QUARTERS];
        int sold;
        int price;
        private int drunk;
        private int poured;
        private int left;
        private int made;
        private int age;
        private int z;
        private int jugs;
        private int jugCost;
        private int glasses;
        private int sour;
        private int little;

        void begin(int seed, Recipe recipe, int dayPrice, int dayJugs) {
            Arrays.fill(soldIn, 0);
            sold = 0;
            drunk = 0;
            poured = 0;
            left = 0;
            made = 0;
            z = seed;
            price = dayPrice;
            jugs = dayJugs;
            jugCost = recipe.jugCost();
            glasses = recipe.now[GLASSES];
            sour = recipe.now[SOUR];
            little = recipe.now[LITTLE];
            refill();
        }

        void pass(int quarter, Street street, Laws laws) {
            if (!isQuarter(quarter)) {
                return;
            }
            int heat = street.heats[quarter], passers = street.passers(quarter);
            for (int passer = 0; passer < passers; passer++) {
                int drawn = draw();
                if (left > 0 && drawn < laws.buysOf(quarter, heat, age)) {
                    soldIn[quarter]++;
                    sold++;
                    emptyGlass();
                }
            }
            if (draw() < little && left > 0) {
                drunk++;
                emptyGlass();
            }
            grow();
        }

        private int draw() {
            z = z * 1103515245 + 12345;
            return (z >>> 8) % TWELVE;
        }

        private void emptyGlass() {
            left--;
            refill();
        }

        private void refill() {
            if (left == 0 && made < jugs) {
                made++;
                left = glasses;
                age = 0;
            }
        }

        private void grow() {
            if (left > 0 && age + 1 >= sour) {
                poured += left;
                left = 0;
                refill();
            } else {
                age++;
            }
        }

        int gain() {
            return sold * price - made * jugCost;
        }

        int total(int what) {
            switch (what) {
                case 0:
                    return sold;
                case 1:
                    return sold * price;
                case 2:
                    return drunk;
                case 3:
                    return poured;
                case 4:
                    return left;
                case 5:
                    return made;
                case 6:
                    return made * jugCost;
                default:
                    return gain();
            }
        }
    }

    /** What the sets of three bring, how long each worked, and what is each one's share. */
    private static final class Three {
        static final int ALL = 7;

        // of nobody, at 0, it stays 0
        final int[] brought = new int[ALL + 1];
        final int[] worked = new int[3];

        int above(int who, int how) {
            if (how == 0) {
                return brought[ALL];
            }
            return how == 1 ? brought[ALL] * worked[who] : addedInAllOrders(who);
        }

        int below(int how) {
            if (how == 0) {
                return 3;
            }
            return how == 1 ? Math.max(1, worked[0] + worked[1] + worked[2]) : 6;
        }

        // two orders have one first, two last; one order each has it behind one other
        private int addedInAllOrders(int who) {
            int me = 1 << who, one = 1 << (who + 1) % 3, two = 1 << (who + 2) % 3;
            return 2 * brought[me]
                    + brought[me | one] - brought[one]
                    + brought[me | two] - brought[two]
                    + 2 * (brought[ALL] - brought[one | two]);
        }
    }

    /** Who owes whom how much. */
    private static final class Slates {
        private static final int NAMES = 6, SETS = 64;

        private final int[] debts = new int[NAMES * NAMES];
        private final int[] sums = new int[SETS];
        private final int[] groups = new int[SETS];

        static boolean isName(int name) {
            return isWithin(name, 0, NAMES - 1);
        }

        int write(int a, int b, int v) {
            int was = debts[a * NAMES + b];
            debts[a * NAMES + b] = v;
            return was;
        }

        int balance(int name) {
            int sum = 0;
            for (int other = 0; other < NAMES; other++) {
                sum += debts[name * NAMES + other] - debts[other * NAMES + name];
            }
            return sum;
        }

        // names whose balances add up to 0 need one payment less than they are:
        // so the more such groups the names fall into, the fewer payments
        int fewestPayments() {
            for (int name = 0; name < NAMES; name++) {
                int balance = balance(name), alone = 1 << name;
                for (int set = alone; set < 2 * alone; set++) {
                    sums[set] = sums[set - alone] + balance;
                    groups[set] = mostGroups(set);
                }
            }
            return NAMES - groups[SETS - 1];
        }

        // a chain of sets, each by one name larger, passes through a sum of 0 at each group's end
        private int mostGroups(int set) {
            int most = 0;
            for (int name = 0; name < NAMES; name++) {
                if ((set >> name & 1) == 1) {
                    most = Math.max(most, groups[set ^ 1 << name]);
                }
            }
            return sums[set] == 0 ? most + 1 : most;
        }
    }

    /** The glasses kept as bodies, their acts, and the trace of the latest act. */
    private static final class Glasses {
        static final int KINDS = 8;
        private static final int MOST = 50, TRACE = 24, DEEPEST = 40;
        private static final int MAKES = 0, SELLS = 1, SHARES = 2, TELLS = 3, ACTS = 4;
        // GLASS, SOLD, DRUNK, SPILT, GIVEN, SOUR, LOST, OVERPAID
        private static final int[] ABOVE = {-1, 0, 0, 2, 1, 3, 0, 4};
        // by kind: its bodies of makes, sells, shares, tells; 0 where it has none
        private static final int[] BODIES = {
            1, 10, 11, 2,
            20, 0, 0, 0,
            0, 30, 0, 0,
            0, 41, 40, 0,
            0, 0, 50, 0,
            0, 0, 0, 60,
            70, 0, 0, 0,
            0, 80, 0, 81};

        final int[] kinds = new int[MOST];
        int size;
        final int[] ran = new int[TRACE];
        int begun;
        private int acting;

        boolean add(int kind) {
            if (size >= MOST) {
                return false;
            }
            kinds[size] = kind;
            size++;
            return true;
        }

        boolean has(int body) {
            return isWithin(body, 0, size - 1);
        }

        boolean isUnder(int body, int kind) {
            int own = kinds[body];
            for (int up = 0; up < KINDS && own > 0 && own != kind; up++) {
                own = ABOVE[own];
            }
            return own == kind;
        }

        int begunKept() {
            return Math.min(begun, TRACE);
        }

        int enact(int body, int act, int x) {
            begun = 0;
            if (!has(body) || !isWithin(act, 0, ACTS - 1)) {
                return 0;
            }
            acting = body;
            return run(kinds[body], act, x, 0);
        }

        // the kinds above a kind end with GLASS, which has a body for each act
        private static int kindWithBody(int kind, int act) {
            int own = kind;
            for (int up = 0; up < KINDS && own > 0 && BODIES[own * ACTS + act] == 0; up++) {
                own = ABOVE[own];
            }
            return Math.max(own, 0);
        }

        private void note(int number) {
            if (begun < TRACE) {
                ran[begun] = number;
            }
            begun++;
        }

        private int run(int from, int act, int x, int depth) {
            if (depth > DEEPEST) {
                return 0;
            }
            int kind = kindWithBody(from, act), deeper = depth + 1;
            int own = kinds[acting], above = ABOVE[kind], number = BODIES[kind * ACTS + act];
            note(number);
            switch (number) {
                case 1:
                    return x + acting;
                case 10:
                    return run(own, MAKES, x, deeper) * 2;
                case 11:
                    return x ^ acting;
                case 2:
                    return run(own, SELLS, x, deeper) - run(own, SHARES, 1, deeper);
                case 20:
                    return run(above, MAKES, x, deeper) + 3;
                case 30:
                    return -run(above, SELLS, x, deeper);
                case 40:
                    return run(above, SHARES, x, deeper) * 3;
                case 41:
                    return run(above, SELLS, x + 1, deeper);
                case 50:
                    return run(above, SHARES, x, deeper) - run(own, MAKES, 2, deeper);
                case 60:
                    return run(above, TELLS, x, deeper) ^ 5;
                case 70:
                    return run(above, MAKES, x, deeper) * 2;
                case 80:
                    return run(above, SELLS, x, deeper) + run(own, SHARES, 2, deeper);
                case 81:
                    return run(above, TELLS, x, deeper) - 1;
                default:
                    return 0;
            }
        }
    }

    /** One shelf: it holds nothing, a glass (its body), or a row, whose elements are kept as longs. */
    private static final class Shelf {
        private static final int NONE = -1, INTS = 2, LONGS = 3;

        int body = NONE;
        int sort = NONE;
        int length;
        final long[] elements = new long[LONGEST_ROW];

        boolean isEmpty() {
            return body == NONE && sort == NONE;
        }

        boolean isRowOf(int wanted) {
            return sort != NONE && sort == wanted;
        }

        // a body of -1 leaves it holding nothing
        void holdGlass(int glass) {
            body = glass;
            sort = NONE;
            length = 0;
        }

        void holdRow(int rowSort, int n) {
            body = NONE;
            sort = rowSort;
            length = Math.min(n, LONGEST_ROW);
            Arrays.fill(elements, 0L);
        }

        boolean hasPlaces(int i, int n) {
            return i >= 0 && n >= 0 && i <= length && n <= length - i;
        }

        int refusalOfSort(int wanted) {
            if (isEmpty()) {
                return NOTHING_THERE;
            }
            return isRowOf(wanted) ? 0 : OTHER_KIND;
        }

        int refusalOfPlaces(int i, int n) {
            int refusal = refusalOfSort(sort);
            if (refusal != 0) {
                return refusal;
            }
            return hasPlaces(i, n) ? 0 : NO_SUCH_PLACE;
        }

        void write(int i, long v) {
            switch (sort) {
                case BYTES:
                    elements[i] = (byte) v;
                    break;
                case SHORTS:
                    elements[i] = (short) v;
                    break;
                case INTS:
                    elements[i] = (int) v;
                    break;
                case LONGS:
                    elements[i] = v;
                    break;
                default:
                    elements[i] = v == 0 ? 0 : 1;
            }
        }
    }

    /** Sums that keep nothing. */
    private static final class Sums {
        static long power(long base, int times) {
            long product = 1;
            for (int i = 0; i < times; i++) {
                product *= base;
            }
            return product;
        }

        static long ways(int n, int j) {
            long ways = 1;
            for (int i = 1; i <= j; i++) {
                ways = ways * (n - j + i) / i;
            }
            return ways;
        }

        /** The mean of what is sold of some glasses to n passers, times 12 to the power n. */
        static long meanSold(int n, int x, int glasses) {
            long sum = 0;
            for (int buyers = 0; buyers <= n; buyers++) {
                long weight = ways(n, buyers) * power(x, buyers) * power(TWELVE - x, n - buyers);
                sum += weight * Math.min(buyers, glasses);
            }
            return sum;
        }

        /** The greatest number that divides both; at least 1. */
        static long divisor(long a, long b) {
            long one = Math.abs(a), other = Math.abs(b);
            for (int round = 0; round < 1000 && other != 0; round++) {
                long rest = one % other;
                one = other;
                other = rest;
            }
            return Math.max(one, 1);
        }
    }
}
