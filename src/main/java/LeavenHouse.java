/**
 * A leaven house: dough made from one pound by joining crocks, days in which leaven tires, laws
 * read from texts, and what can be known of chains of sums.
 */
public final class LeavenHouse {
    public static final int NONE = -1;

    private static final int OTHER = -2;
    private static final int CROCKS = 8;
    private static final int MOST_TEXTS = 4;
    private static final int MOST_DAYS = 60;
    private static final int MOST_ORDERS = 4;
    private static final int MOST_SAID = 8;
    private static final int MOST_TIRES = 10;

    private static final int JOINED = 0;
    private static final int POURED = 1;
    private static final int BAKED = 2;
    private static final int TIRED = 3;

    private final World now = new World();
    private final World kept = new World();
    private final House ahead = new House();
    private final Text[] texts = new Text[MOST_TEXTS];
    private final Reader reader = new Reader();
    private final Laws laws = new Laws();
    private final Chains known = new Chains();
    private final Spending spending = new Spending();
    private final Shelf shelf = new Shelf();
    private final Spoonful spoonful = new Spoonful();

    public LeavenHouse() {
        for (int i = 0; i < MOST_TEXTS; i++) {
            texts[i] = new Text();
        }
        now.house.pounds[0] = 1;
        kept.copyFrom(now);
    }

    // ---- texts

    public int feed(int a, int b, int c, int d, int e) {
        if (!reader.hasRoom()) {
            return NONE;
        }
        reader.addFour(a);
        reader.addFour(b);
        reader.addFour(c);
        reader.addFour(d);
        reader.addFour(e);
        return reader.length;
    }

    public int end(int n) {
        if (n < 0 || n > reader.length) {
            return NONE;
        }
        reader.length = n;
        return n;
    }

    public int text() {
        if (now.texts < 0 || now.texts >= MOST_TEXTS) {
            return NONE;
        }
        // A slot from now.texts on is never one of the image's, as texts are only ever added.
        boolean good = reader.readsInto(texts[now.texts]);
        reader.length = 0;
        if (!good) {
            return NONE;
        }
        now.texts++;
        return now.texts - 1;
    }

    public int fault(int what) {
        switch (what) {
            case 0:
                return reader.faultKind;
            case 1:
                return reader.faultPlace;
            default:
                return NONE;
        }
    }

    public boolean by(int text) {
        if (text != NONE && !isText(text)) {
            return false;
        }
        now.ruling = text;
        return true;
    }

    private boolean isText(int text) {
        return text >= 0 && text < now.texts && text < MOST_TEXTS;
    }

    private Text ruler() {
        return isText(now.ruling) ? texts[now.ruling] : null;
    }

    // ---- steps

    public int join(int a, int b) {
        if (!now.house.joinable(a, b)) {
            return NONE;
        }
        now.steps.remember(now.house);
        return now.house.unite(a, b);
    }

    public boolean pour(int crock) {
        if (!now.house.holds(crock)) {
            return false;
        }
        now.steps.remember(now.house);
        now.house.clear(crock, POURED);
        return true;
    }

    public int bake(int crock) {
        if (!now.house.holds(crock)) {
            return NONE;
        }
        now.steps.remember(now.house);
        return now.house.sell(crock, laws, ruler());
    }

    public int day(int n) {
        if (n < 1 || n > MOST_DAYS || now.house.date + n > House.LAST_DAY) {
            return NONE;
        }
        return passDays(n);
    }

    /** So many days pass, or those that can: how many crocks tire. */
    private int passDays(int n) {
        int tired = 0;
        for (int i = 0; i < n && now.house.date < House.LAST_DAY; i++) {
            now.steps.remember(now.house);
            tired += now.house.passDay(laws, ruler());
        }
        return tired;
    }

    public int played(int text) {
        if (!isText(text)) {
            return OTHER;
        }
        Text script = texts[text];
        for (int i = 0; i < script.clauses && i < Text.MOST_CLAUSES; i++) {
            if (!follows(script.kinds[i], script.firsts[i], script.seconds[i])) {
                return i;
            }
        }
        return NONE;
    }

    /** Whether the clause could be done whole. */
    private boolean follows(int kind, int first, int second) {
        switch (kind) {
            case Reader.JOIN:
                return join(first, second) != NONE;
            case Reader.POUR:
                return pour(first);
            case Reader.BAKE:
                return bake(first) != NONE;
            case Reader.DAY:
                boolean whole = now.house.date + first <= House.LAST_DAY;
                passDays(first);
                return whole;
            case Reader.MAKE:
                return makes(first);
            default:
                return true;
        }
    }

    private boolean makes(int n) {
        int joinings = known.joiningsOf(n);
        for (int i = 1; i <= joinings; i++) {
            int wanted = known.linkOf(n, i);
            if (now.house.crockWith(wanted) != NONE) {
                continue;
            }
            int pair = now.house.pairWith(wanted);
            if (pair == NONE || join(pair / CROCKS, pair % CROCKS) == NONE) {
                return false;
            }
        }
        return true;
    }

    public int years(int seed, int n) {
        if (seed < 0 || seed > 9999 || n < 1 || n > 40) {
            return NONE;
        }
        now.steps.remember(now.house);
        now.house.live(seed, n, laws, ruler());
        return now.house.date;
    }

    public int undo() {
        return now.steps.takeBack(now.house) ? now.steps.count : NONE;
    }

    // ---- what stands there

    public int of(int crock, int what) {
        if (crock < 0 || crock >= CROCKS) {
            return NONE;
        }
        switch (what) {
            case 0:
                return now.house.pounds[crock];
            case 1:
                return now.house.ages[crock];
            case 2:
                return laws.tiresOf(ruler(), now.house, crock);
            case 3:
                return laws.priceOf(ruler(), now.house, crock);
            default:
                return NONE;
        }
    }

    public int is(int what) {
        switch (what) {
            case 0:
                return now.house.date;
            case 1:
                return now.house.x;
            case 2:
                return now.house.fund;
            case 3:
                return now.house.fullBits();
            case 4:
                return now.house.allPounds();
            default:
                return OTHER;
        }
    }

    public int book(int i, int what) {
        if (i == NONE) {
            return now.house.written;
        }
        if (i < 0 || i >= now.house.written || what < 0 || what > 3) {
            return OTHER;
        }
        return now.house.lineShows(i, what);
    }

    public int oldest() {
        return now.house.crockOfMost(now.house.ages);
    }

    public int fullest() {
        return now.house.crockOfMost(now.house.pounds);
    }

    public int can(int n) {
        if (n < 1 || n > 2 * House.MOST_POUNDS) {
            return NONE;
        }
        int pair = now.house.pairWith(n);
        return pair == NONE ? NONE : 1 << pair / CROCKS | 1 << pair % CROCKS;
    }

    public int ledger(int what) {
        if (what < 0 || what > 3) {
            return OTHER;
        }
        int count = 0;
        for (int i = 0; i < now.house.written; i++) {
            if (now.house.lineShows(i, 1) == what) {
                count++;
            }
        }
        return count;
    }

    public int foretold(int n, int crock) {
        if (n < 1 || n > MOST_DAYS || crock < 0 || crock >= CROCKS) {
            return NONE;
        }
        ahead.copyFrom(now.house);
        for (int i = 0; i < n && ahead.date < House.LAST_DAY; i++) {
            ahead.passDay(laws, ruler());
        }
        return ahead.pounds[crock];
    }

    // ---- chains

    public int fewest(int n) {
        return known.joiningsOf(n);
    }

    public int chain(int n, int i) {
        return i >= 0 && i <= known.joiningsOf(n) ? known.linkOf(n, i) : NONE;
    }

    public long chains(int n) {
        return known.waysOf(n);
    }

    public int halves(int n) {
        if (n < 1 || n > 1000000) {
            return NONE;
        }
        int joinings = 0;
        for (int rest = n; rest > 1; rest /= 2) {
            joinings += 1 + rest % 2;
        }
        return joinings;
    }

    public int parts(int n) {
        if (n < 1 || n > 1000000) {
            return NONE;
        }
        return byParts(n, 12);
    }

    /** A prime in a number is the root of it at most, so some six levels are all there are. */
    private static int byParts(int n, int levels) {
        int joinings = 0;
        int rest = n;
        for (int i = 0; i < 64 && rest > 1; i++) {
            int prime = leastPrime(rest);
            if (prime == rest) {
                joinings++;
                rest--;
            } else {
                joinings += levels > 0 ? byParts(prime, levels - 1) : 0;
                rest /= prime;
            }
        }
        return joinings;
    }

    private static int leastPrime(int n) {
        for (int p = 2; p * p <= n; p++) {
            if (n % p == 0) {
                return p;
            }
        }
        return Math.max(n, 2);
    }

    public int hardest(int low, int high) {
        if (low < 1 || high > Chains.MOST || low > high || high - low > 20) {
            return NONE;
        }
        int best = low;
        for (int n = low + 1; n <= high; n++) {
            if (known.joiningsOf(n) > known.joiningsOf(best)) {
                best = n;
            }
        }
        return best;
    }

    public int cost(int n, int twice, int joined) {
        if (n < 1 || n > 40 || twice < 1 || twice > 9 || joined < 1 || joined > 9) {
            return NONE;
        }
        return spending.least(n, twice, joined);
    }

    public int few(int n, int crocks) {
        if (n < 1 || n > Shelf.MOST || crocks < 1 || crocks > Shelf.MOST_CROCKS) {
            return NONE;
        }
        return shelf.joiningsOf(n, crocks, known.joiningsOf(n), halves(n));
    }

    public int spoons(int n) {
        if (n < 1 || n > Spoonful.MOST) {
            return NONE;
        }
        return spoonful.fewestOf(n);
    }

    public int both(int rye, int wheat) {
        if (rye < 0 || rye > 9 || wheat < 0 || wheat > 9 || rye + wheat == 0) {
            return NONE;
        }
        if (rye == 0 || wheat == 0) {
            return known.joiningsOf(rye + wheat);
        }
        // Turned about, a way to so much of both is a chain in which both numbers are, and one
        // joining more (Olivos): so the chain is sought, which is far less work.
        return known.joiningsOfBoth(rye, wheat) + 1;
    }

    // ---- orders and what is reached

    public int order(int n) {
        if (n == NONE) {
            now.orderCount = 0;
            return 0;
        }
        if (n < 1 || n > 40 || now.orderCount >= MOST_ORDERS) {
            return OTHER;
        }
        now.orders[now.orderCount] = n;
        now.orderCount++;
        return now.orderCount;
    }

    public int made(int i) {
        if (i < NONE) {
            return OTHER;
        }
        known.fulfil(now.orders, now.orderCount);
        if (i == NONE) {
            return known.fulfilled - 1;
        }
        return i < known.fulfilled ? known.fulfilling[i] : OTHER;
    }

    public int reach(int joinings) {
        if (joinings < 0 || joinings > 6) {
            return NONE;
        }
        int count = 0;
        for (int n = joinings + 1; n <= 1 << joinings; n++) {
            if (isReached(n, joinings)) {
                count++;
            }
        }
        return count;
    }

    public int reached(int joinings, int i) {
        if (joinings < 0 || joinings > 6 || i < 0) {
            return NONE;
        }
        int left = i;
        for (int n = joinings + 1; n <= 1 << joinings; n++) {
            if (!isReached(n, joinings)) {
                continue;
            }
            if (left == 0) {
                return n;
            }
            left--;
        }
        return NONE;
    }

    /**
     * For n above the joinings: a chain in which a number below its last is missing can take in the
     * least missing one (one more than one that is there), so n is the last of chains of all lengths
     * from its fewest to n - 1 joinings.
     */
    private boolean isReached(int n, int joinings) {
        return known.joiningsOf(n) <= joinings;
    }

    public int first(int joinings) {
        if (joinings < 0 || joinings > 9) {
            return NONE;
        }
        for (int n = 1; n <= Chains.MOST; n++) {
            if (known.joiningsOf(n) >= joinings) {
                return n;
            }
        }
        return NONE;
    }

    // ---- a chain told

    public int tell(int n) {
        if (n == NONE) {
            now.told.count = 1;
            return 1;
        }
        if (n < 1 || n > 9999 || now.told.count >= Told.MOST) {
            return OTHER;
        }
        now.told.numbers[now.told.count] = n;
        now.told.count++;
        return now.told.count;
    }

    public int wrong() {
        return now.told.wrongWithout(NONE);
    }

    public int needless() {
        if (now.told.wrongWithout(NONE) != NONE) {
            return NONE;
        }
        int bits = 0;
        for (int i = 1; i < now.told.count - 1; i++) {
            if (now.told.wrongWithout(i) == NONE) {
                bits |= 1 << i;
            }
        }
        return bits;
    }

    public boolean star() {
        return now.told.wrongWithout(NONE) == NONE && now.told.goesByTheLast();
    }

    public int steps(boolean twice) {
        if (now.told.wrongWithout(NONE) != NONE) {
            return NONE;
        }
        int doublings = now.told.doublings();
        return twice ? doublings : now.told.count - 1 - doublings;
    }

    // ---- the game

    public int game(int n) {
        if (n < 2 || n > 12) {
            return NONE;
        }
        return winningPlay(2, 1, n) == NONE ? 0 : 1;
    }

    public int play(int n) {
        if (n < 2 || n > 12) {
            return NONE;
        }
        return winningPlay(2, 1, n);
    }

    /** Each play is above the last, n at most, so it goes no deeper than n. */
    private static int winningPlay(int there, int last, int n) {
        for (int v = last + 1; v <= n; v++) {
            if (isSum(there, v) && (v == n || winningPlay(there | 1 << v, v, n) == NONE)) {
                return v;
            }
        }
        return NONE;
    }

    private static boolean isSum(int there, int v) {
        for (int a = 1; a + a <= v; a++) {
            if ((there >> a & there >> (v - a) & 1) == 1) {
                return true;
            }
        }
        return false;
    }

    // ---- whose law

    public int said(int crock, int tires) {
        if (crock == NONE) {
            now.saidCount = 0;
            return 0;
        }
        if (crock < 0 || crock >= CROCKS || tires < 0 || tires > MOST_TIRES
                || now.saidCount >= MOST_SAID) {
            return OTHER;
        }
        now.saidCrocks[now.saidCount] = crock;
        now.saidTires[now.saidCount] = tires;
        now.saidCount++;
        return now.saidCount;
    }

    public int whose() {
        int bits = 0;
        for (int i = 0; i < MOST_TEXTS && isText(i); i++) {
            if (agrees(texts[i])) {
                bits |= 1 << i;
            }
        }
        return bits;
    }

    private boolean agrees(Text text) {
        for (int i = 0; i < now.saidCount; i++) {
            if (laws.tiresOf(text, now.house, now.saidCrocks[i]) != now.saidTires[i]) {
                return false;
            }
        }
        return true;
    }

    // ---- the image

    public int image() {
        kept.copyFrom(now);
        return now.house.date;
    }

    public int back() {
        now.copyFrom(kept);
        return now.house.date;
    }

    public int about(int what) {
        switch (what) {
            case 0:
                return now.texts;
            case 1:
                return now.ruling;
            case 2:
                return now.steps.count;
            case 3:
                return now.orderCount;
            case 4:
                return now.told.count;
            case 5:
                return now.saidCount;
            case 6:
                return reader.length;
            default:
                return OTHER;
        }
    }

    /** All that an image keeps; of the texts their number, as those below it never change. */
    private static final class World {
        final House house = new House();
        final Steps steps = new Steps();
        final Told told = new Told();
        final int[] orders = new int[MOST_ORDERS];
        final int[] saidCrocks = new int[MOST_SAID];
        final int[] saidTires = new int[MOST_SAID];
        int texts;
        int ruling = NONE;
        int orderCount;
        int saidCount;

        void copyFrom(World other) {
            house.copyFrom(other.house);
            steps.copyFrom(other.steps);
            told.copyFrom(other.told);
            System.arraycopy(other.orders, 0, orders, 0, MOST_ORDERS);
            System.arraycopy(other.saidCrocks, 0, saidCrocks, 0, MOST_SAID);
            System.arraycopy(other.saidTires, 0, saidTires, 0, MOST_SAID);
            texts = other.texts;
            ruling = other.ruling;
            orderCount = other.orderCount;
            saidCount = other.saidCount;
        }
    }

    /** The crocks, the fund, the day, X and the book: what a step changes. */
    private static final class House {
        static final int MOST_POUNDS = 9999;
        static final int LAST_DAY = 9999;
        private static final int MOST_AGE = 99;
        private static final int MOST_FUND = 999999;
        private static final int MOST_LINES = 25;
        private static final int FIRST_X = 433;

        final int[] pounds = new int[CROCKS];
        final int[] ages = new int[CROCKS];
        private final long[] lines = new long[MOST_LINES];
        private int eldest;
        int written;
        int fund;
        int date;
        int x = FIRST_X;

        void copyFrom(House other) {
            System.arraycopy(other.pounds, 0, pounds, 0, CROCKS);
            System.arraycopy(other.ages, 0, ages, 0, CROCKS);
            System.arraycopy(other.lines, 0, lines, 0, MOST_LINES);
            eldest = other.eldest;
            written = other.written;
            fund = other.fund;
            date = other.date;
            x = other.x;
        }

        boolean holds(int crock) {
            return crock >= 0 && crock < CROCKS && pounds[crock] > 0;
        }

        boolean joinable(int a, int b) {
            return holds(a) && holds(b) && pounds[a] + pounds[b] <= MOST_POUNDS
                    && crockWith(0) != NONE;
        }

        /** The lowest crock with just so many pounds. */
        int crockWith(int amount) {
            for (int i = 0; i < CROCKS; i++) {
                if (pounds[i] == amount) {
                    return i;
                }
            }
            return NONE;
        }

        /** The lowest two crocks with so many pounds together, the first times CROCKS. */
        int pairWith(int amount) {
            for (int a = 0; a < CROCKS; a++) {
                for (int b = a; b < CROCKS; b++) {
                    if (holds(a) && holds(b) && pounds[a] + pounds[b] == amount) {
                        return a * CROCKS + b;
                    }
                }
            }
            return NONE;
        }

        int unite(int a, int b) {
            int crock = crockWith(0);
            if (crock == NONE || !holds(a) || !holds(b)) {
                return NONE;
            }
            pounds[crock] = pounds[a] + pounds[b];
            ages[crock] = 0;
            writeDown(JOINED, crock, pounds[crock]);
            return crock;
        }

        void clear(int crock, int kind) {
            if (!holds(crock)) {
                return;
            }
            writeDown(kind, crock, pounds[crock]);
            pounds[crock] = 0;
            ages[crock] = 0;
        }

        int sell(int crock, Laws laws, Text ruler) {
            if (!holds(crock)) {
                return NONE;
            }
            int price = laws.priceOf(ruler, this, crock);
            fund = Math.min(MOST_FUND, fund + price);
            clear(crock, BAKED);
            return price;
        }

        /** How many crocks tire. */
        int passDay(Laws laws, Text ruler) {
            int tired = 0;
            for (int i = 0; i < CROCKS; i++) {
                if (pounds[i] == 0) {
                    continue;
                }
                ages[i] = Math.min(MOST_AGE, ages[i] + 1);
                if (draw() % 10 < laws.tiresOf(ruler, this, i)) {
                    tire(i);
                    tired++;
                }
            }
            date++;
            return tired;
        }

        private void tire(int crock) {
            pounds[crock] /= 2;
            if (pounds[crock] == 0) {
                ages[crock] = 0;
            }
            writeDown(TIRED, crock, pounds[crock]);
        }

        /** X as it was; it is anew behind it. */
        private int draw() {
            int drawn = x;
            x = (x * 683 + 563) % 30997;
            return drawn;
        }

        void live(int seed, int n, Laws laws, Text ruler) {
            x = seed * 2 + FIRST_X;
            for (int i = 0; i < n; i++) {
                liveOnce(draw(), laws, ruler);
            }
        }

        private void liveOnce(int drawn, Laws laws, Text ruler) {
            int crock = drawn / 6 % CROCKS;
            switch (drawn % 6) {
                case 0:
                case 1:
                    if (joinable(crock, drawn % CROCKS)) {
                        unite(crock, drawn % CROCKS);
                    }
                    break;
                case 2:
                    if (drawn % 4 == 0) {
                        clear(crock, POURED);
                    }
                    break;
                case 3:
                    if (drawn % 4 == 1) {
                        sell(crock, laws, ruler);
                    }
                    break;
                default:
                    if (date < LAST_DAY) {
                        passDay(laws, ruler);
                    }
                    break;
            }
        }

        /** A line is one long, so that the copies that steps and the image keep stay small. */
        private void writeDown(int kind, int crock, int amount) {
            int at = (eldest + written) % MOST_LINES;
            lines[at] = ((date * 4L + kind) * CROCKS + crock) * 10000L + amount;
            if (written < MOST_LINES) {
                written++;
            } else {
                eldest = (eldest + 1) % MOST_LINES;
            }
        }

        int lineShows(int i, int what) {
            long line = lines[(eldest + i) % MOST_LINES];
            switch (what) {
                case 0:
                    return (int) (line / (4L * CROCKS * 10000L));
                case 1:
                    return (int) (line / (CROCKS * 10000L) % 4);
                case 2:
                    return (int) (line / 10000L % CROCKS);
                default:
                    return (int) (line % 10000L);
            }
        }

        int fullBits() {
            int bits = 0;
            for (int i = 0; i < CROCKS; i++) {
                if (pounds[i] > 0) {
                    bits |= 1 << i;
                }
            }
            return bits;
        }

        int allPounds() {
            int sum = 0;
            for (int i = 0; i < CROCKS; i++) {
                sum += pounds[i];
            }
            return sum;
        }

        /** Of the crocks with any the lowest that has most of what the row tells. */
        int crockOfMost(int[] row) {
            int best = NONE;
            for (int i = 0; i < CROCKS && i < row.length; i++) {
                if (pounds[i] > 0 && (best == NONE || row[i] > row[best])) {
                    best = i;
                }
            }
            return best;
        }
    }

    /** The house as it was ahead of each of the latest steps, in a ring. */
    private static final class Steps {
        private static final int MOST = 30;

        private final House[] before = new House[MOST];
        private int eldest;
        int count;

        Steps() {
            for (int i = 0; i < MOST; i++) {
                before[i] = new House();
            }
        }

        void remember(House house) {
            before[(eldest + count) % MOST].copyFrom(house);
            if (count < MOST) {
                count++;
            } else {
                eldest = (eldest + 1) % MOST;
            }
        }

        boolean takeBack(House house) {
            if (count == 0) {
                return false;
            }
            count--;
            house.copyFrom(before[(eldest + count) % MOST]);
            return true;
        }

        void copyFrom(Steps other) {
            eldest = other.eldest;
            count = other.count;
            for (int i = 0; i < count; i++) {
                int at = (eldest + i) % MOST;
                before[at].copyFrom(other.before[at]);
            }
        }
    }

    /** A chain that is told number by number. */
    private static final class Told {
        static final int MOST = 12;

        final int[] numbers = new int[MOST];
        int count = 1;

        Told() {
            numbers[0] = 1;
        }

        void copyFrom(Told other) {
            System.arraycopy(other.numbers, 0, numbers, 0, MOST);
            count = other.count;
        }

        /** The first number that is wrong if the one at left isn't there. */
        int wrongWithout(int left) {
            int last = 0;
            for (int i = 1; i < count; i++) {
                if (i == left) {
                    continue;
                }
                if (numbers[i] <= numbers[last] || !isSumWithout(i, left)) {
                    return i;
                }
                last = i;
            }
            return NONE;
        }

        private boolean isSumWithout(int i, int left) {
            for (int a = 0; a < i; a++) {
                for (int b = a; b < i; b++) {
                    if (a != left && b != left && numbers[a] + numbers[b] == numbers[i]) {
                        return true;
                    }
                }
            }
            return false;
        }

        /** Whether each number is the sum of the one ahead of it and another. */
        boolean goesByTheLast() {
            for (int i = 1; i < count; i++) {
                if (!stands(i, numbers[i] - numbers[i - 1])) {
                    return false;
                }
            }
            return true;
        }

        int doublings() {
            int sum = 0;
            for (int i = 1; i < count; i++) {
                if (numbers[i] % 2 == 0 && stands(i, numbers[i] / 2)) {
                    sum++;
                }
            }
            return sum;
        }

        private boolean stands(int below, int number) {
            for (int i = 0; i < below; i++) {
                if (numbers[i] == number) {
                    return true;
                }
            }
            return false;
        }
    }

    /** A text that was read: its clauses, and its laws as steps of a machine with a stack. */
    private static final class Text {
        static final int MOST_CLAUSES = 24;
        /** No token of a text makes more than one step. */
        static final int MOST_CODE = 300;
        static final int TIRES = 0;
        static final int PRICE = 1;

        final int[] kinds = new int[MOST_CLAUSES];
        final int[] firsts = new int[MOST_CLAUSES];
        final int[] seconds = new int[MOST_CLAUSES];
        final int[] code = new int[MOST_CODE];
        final int[] lawFrom = {NONE, NONE};
        final int[] lawTo = {NONE, NONE};
        int clauses;
        int codeLength;

        void forget() {
            clauses = 0;
            codeLength = 0;
            lawFrom[TIRES] = NONE;
            lawFrom[PRICE] = NONE;
        }

        void addClause(int kind, int first, int second) {
            if (clauses < MOST_CLAUSES) {
                kinds[clauses] = kind;
                firsts[clauses] = first;
                seconds[clauses] = second;
                clauses++;
            }
        }

        void addCode(int op, int operand) {
            if (codeLength < MOST_CODE) {
                code[codeLength] = operand << 5 | op;
                codeLength++;
            }
        }

        /** The jump at the place goes to the next step that is added. */
        void landHere(int at) {
            if (at >= 0 && at < codeLength) {
                code[at] = codeLength << 5 | code[at] & 31;
            }
        }
    }

    /** What tires and price are by a text's laws. */
    private static final class Laws {
        static final int PUSH = 0;
        static final int DAY = 1;
        static final int NUMBER = 2;
        static final int POUNDS = 3;
        static final int AGE = 4;
        static final int FULL = 5;
        static final int ODD = 6;
        static final int FUND = 7;
        static final int JUMP = 8;
        static final int UNLESS = 9;
        static final int NEGATE = 10;
        static final int DOUBLE = 11;
        static final int CROCK = 12;
        static final int NOT = 13;
        static final int ADD = 14;
        static final int SUBTRACT = 15;
        static final int MULTIPLY = 16;
        static final int DIVIDE = 17;
        static final int LESS = 18;
        static final int LESS_OR_LIKE = 19;
        static final int MORE = 20;
        static final int MORE_OR_LIKE = 21;
        static final int LIKE = 22;
        static final int UNLIKE = 23;
        static final int AND = 24;
        static final int OR = 25;

        private static final int MOST = 1000000;
        /** Nine levels at most, each with five values that wait at most. */
        private static final int MOST_WAITING = 64;

        private final int[] stack = new int[MOST_WAITING];
        /** Counted once for a law, however often it asks. */
        private int full;

        int tiresOf(Text text, House house, int crock) {
            if (text == null || text.lawFrom[Text.TIRES] == NONE) {
                return 2;
            }
            int value = valueOf(text, Text.TIRES, house, crock);
            return Math.max(0, Math.min(MOST_TIRES, value));
        }

        int priceOf(Text text, House house, int crock) {
            if (text == null || text.lawFrom[Text.PRICE] == NONE) {
                return house.pounds[crock];
            }
            int value = valueOf(text, Text.PRICE, house, crock);
            return Math.max(0, Math.min(9999, value));
        }

        private int valueOf(Text text, int law, House house, int crock) {
            int end = Math.min(text.lawTo[law], Text.MOST_CODE);
            int held = 0;
            full = NONE;
            for (int at = Math.max(text.lawFrom[law], 0); at < end; at++) {
                int op = text.code[at] & 31;
                int operand = text.code[at] >> 5;
                if (op < JUMP) {
                    if (held >= MOST_WAITING) {
                        return 0;
                    }
                    stack[held] = op == PUSH ? operand : named(op, house, crock);
                    held++;
                } else if (op == JUMP) {
                    at = Math.max(at, operand - 1);
                } else if (held < 1 || op >= ADD && held < 2) {
                    return 0;
                } else if (op == UNLESS) {
                    held--;
                    at = stack[held] == 0 ? Math.max(at, operand - 1) : at;
                } else if (op < ADD) {
                    stack[held - 1] = ofOne(op, stack[held - 1], house);
                } else {
                    held--;
                    stack[held - 1] = ofTwo(op, stack[held - 1], stack[held]);
                }
            }
            return held > 0 ? stack[held - 1] : 0;
        }

        private int named(int op, House house, int crock) {
            switch (op) {
                case DAY:
                    return house.date;
                case NUMBER:
                    return crock;
                case POUNDS:
                    return house.pounds[crock];
                case AGE:
                    return house.ages[crock];
                case FULL:
                    full = full == NONE ? Integer.bitCount(house.fullBits()) : full;
                    return full;
                case ODD:
                    return house.pounds[crock] % 2;
                default:
                    return house.fund;
            }
        }

        private static int ofOne(int op, int a, House house) {
            switch (op) {
                case NEGATE:
                    return -a;
                case DOUBLE:
                    return within(2L * a);
                case CROCK:
                    return a >= 0 && a < CROCKS ? house.pounds[a] : 0;
                default:
                    return 1 - a;
            }
        }

        private static int ofTwo(int op, int a, int b) {
            switch (op) {
                case ADD:
                    return within((long) a + b);
                case SUBTRACT:
                    return within((long) a - b);
                case MULTIPLY:
                    return within((long) a * b);
                case DIVIDE:
                    return b == 0 ? 0 : a / b;
                case AND:
                    return a & b;
                case OR:
                    return a | b;
                default:
                    return holdsOf(op, a, b) ? 1 : 0;
            }
        }

        private static boolean holdsOf(int op, int a, int b) {
            switch (op) {
                case LESS:
                    return a < b;
                case LESS_OR_LIKE:
                    return a <= b;
                case MORE:
                    return a > b;
                case MORE_OR_LIKE:
                    return a >= b;
                case LIKE:
                    return a == b;
                default:
                    return a != b;
            }
        }

        private static int within(long value) {
            return value > MOST ? MOST : value < -MOST ? -MOST : (int) value;
        }
    }

    /** The tape, and the reading of it: the first fault, or a text. */
    private static final class Reader {
        private static final int MOST_BYTES = 300;
        private static final int MOST_OPEN = 8;
        private static final int MOST_NUMBER = 9999;

        private static final int CANT_STAND = 1;
        private static final int NOT_TOLD = 2;
        private static final int TOO_DEEP = 3;
        private static final int SECOND_TIME = 4;
        private static final int OTHER_NAME = 5;
        private static final int TOO_MANY = 6;

        private static final int END_OF_TAPE = 0;
        private static final int DIGITS = 1;
        private static final int STRANGE = 2;
        private static final int AT_MOST = 3;
        private static final int AT_LEAST = 4;
        // Any other sign is a token of its own byte's number; words are these, as WORDS has them.
        private static final String WORDS =
                "tires price join pour bake make day number pounds age full odd fund double crock if then else end and or not ";
        static final int TIRES = 100;
        static final int PRICE = 101;
        static final int JOIN = 102;
        static final int POUR = 103;
        static final int BAKE = 104;
        static final int MAKE = 105;
        static final int DAY = 106;
        private static final int ODD = 111;
        private static final int FUND = 112;
        private static final int DOUBLE = 113;
        private static final int CROCK = 114;
        private static final int IF = 115;
        private static final int THEN = 116;
        private static final int ELSE = 117;
        private static final int END = 118;
        private static final int AND = 119;
        private static final int OR = 120;
        private static final int NOT = 121;

        private final int[] tape = new int[MOST_BYTES];
        int length;
        int faultKind = NONE;
        int faultPlace = NONE;
        private Text target;
        private int law;
        private int token;
        private int place;
        private int behind;
        private int number;

        boolean hasRoom() {
            return length + 20 <= MOST_BYTES;
        }

        void addFour(int four) {
            for (int shift = 24; shift >= 0 && length < MOST_BYTES; shift -= 8) {
                tape[length] = four >> shift & 255;
                length++;
            }
        }

        boolean readsInto(Text text) {
            target = text;
            target.forget();
            faultKind = 0;
            faultPlace = NONE;
            behind = 0;
            advance();
            for (int i = 0; i <= Text.MOST_CLAUSES && token != END_OF_TAPE; i++) {
                if (!readClause()) {
                    return false;
                }
            }
            return true;
        }

        private boolean failed(int kind) {
            faultKind = kind;
            faultPlace = place;
            return false;
        }

        private boolean readClause() {
            int word = token;
            if (word < TIRES || word > DAY) {
                return failed(CANT_STAND);
            }
            if (word <= PRICE && target.lawFrom[word - TIRES] != NONE) {
                return failed(SECOND_TIME);
            }
            if (target.clauses >= Text.MOST_CLAUSES) {
                return failed(TOO_MANY);
            }
            advance();
            switch (word) {
                case TIRES:
                case PRICE:
                    law = word - TIRES;
                    target.lawFrom[law] = target.codeLength;
                    if (!readSum(0) || !take(';')) {
                        return false;
                    }
                    target.lawTo[law] = target.codeLength;
                    target.addClause(word, 0, 0);
                    return true;
                case JOIN:
                    return readJoin();
                case DAY:
                    return readOrder(word, 1, MOST_DAYS);
                case MAKE:
                    return readOrder(word, 1, Chains.MOST);
                default:
                    return readOrder(word, 0, CROCKS - 1);
            }
        }

        private boolean readJoin() {
            int first = number;
            if (!takeNumber(0, CROCKS - 1) || !take(AND)) {
                return false;
            }
            int second = number;
            if (!takeNumber(0, CROCKS - 1) || !take(';')) {
                return false;
            }
            target.addClause(JOIN, first, second);
            return true;
        }

        private boolean readOrder(int word, int low, int high) {
            int first = number;
            if (!takeNumber(low, high) || !take(';')) {
                return false;
            }
            target.addClause(word, first, 0);
            return true;
        }

        private boolean takeNumber(int low, int high) {
            if (token != DIGITS) {
                return failed(CANT_STAND);
            }
            if (number < low || number > high) {
                return failed(NOT_TOLD);
            }
            advance();
            return true;
        }

        private boolean take(int due) {
            if (token != due) {
                return failed(CANT_STAND);
            }
            advance();
            return true;
        }

        private boolean readSum(int open) {
            if (!readProduct(open)) {
                return false;
            }
            for (int i = 0; i < MOST_BYTES && (token == '+' || token == '-'); i++) {
                int op = token == '+' ? Laws.ADD : Laws.SUBTRACT;
                advance();
                if (!readProduct(open)) {
                    return false;
                }
                target.addCode(op, 0);
            }
            return true;
        }

        private boolean readProduct(int open) {
            if (!readOne(open)) {
                return false;
            }
            for (int i = 0; i < MOST_BYTES && (token == '*' || token == '/'); i++) {
                int op = token == '*' ? Laws.MULTIPLY : Laws.DIVIDE;
                advance();
                if (!readOne(open)) {
                    return false;
                }
                target.addCode(op, 0);
            }
            return true;
        }

        private boolean readOne(int open) {
            if (token == DIGITS) {
                target.addCode(Laws.PUSH, number);
                return takeNumber(0, MOST_NUMBER);
            }
            if (token >= DAY && token <= FUND) {
                return readName();
            }
            if (token != '(' && token != IF && token != '-' && token != DOUBLE && token != CROCK) {
                return failed(CANT_STAND);
            }
            if (open >= MOST_OPEN) {
                return failed(TOO_DEEP);
            }
            int opener = token;
            advance();
            if (opener == '(') {
                return readSum(open + 1) && take(')');
            }
            if (opener == IF) {
                return readChoice(open + 1);
            }
            if (!readOne(open + 1)) {
                return false;
            }
            target.addCode(opener == '-' ? Laws.NEGATE
                    : opener == DOUBLE ? Laws.DOUBLE : Laws.CROCK, 0);
            return true;
        }

        private boolean readName() {
            if (token == (law == Text.TIRES ? FUND : ODD)) {
                return failed(OTHER_NAME);
            }
            target.addCode(token - DAY + Laws.DAY, 0);
            advance();
            return true;
        }

        private boolean readChoice(int open) {
            if (!readEither(open) || !take(THEN)) {
                return false;
            }
            int unless = target.codeLength;
            target.addCode(Laws.UNLESS, 0);
            if (!readSum(open) || !take(ELSE)) {
                return false;
            }
            int jump = target.codeLength;
            target.addCode(Laws.JUMP, 0);
            target.landHere(unless);
            if (!readSum(open) || !take(END)) {
                return false;
            }
            target.landHere(jump);
            return true;
        }

        private boolean readEither(int open) {
            if (!readBoth(open)) {
                return false;
            }
            for (int i = 0; i < MOST_BYTES && token == OR; i++) {
                advance();
                if (!readBoth(open)) {
                    return false;
                }
                target.addCode(Laws.OR, 0);
            }
            return true;
        }

        private boolean readBoth(int open) {
            if (!readAsk(open)) {
                return false;
            }
            for (int i = 0; i < MOST_BYTES && token == AND; i++) {
                advance();
                if (!readAsk(open)) {
                    return false;
                }
                target.addCode(Laws.AND, 0);
            }
            return true;
        }

        private boolean readAsk(int open) {
            if (token == NOT) {
                if (open >= MOST_OPEN) {
                    return failed(TOO_DEEP);
                }
                advance();
                if (!readAsk(open + 1)) {
                    return false;
                }
                target.addCode(Laws.NOT, 0);
                return true;
            }
            if (!readSum(open)) {
                return false;
            }
            int op = relation();
            if (op == NONE) {
                return failed(CANT_STAND);
            }
            advance();
            if (!readSum(open)) {
                return false;
            }
            target.addCode(op, 0);
            return true;
        }

        private int relation() {
            switch (token) {
                case '<':
                    return Laws.LESS;
                case AT_MOST:
                    return Laws.LESS_OR_LIKE;
                case '>':
                    return Laws.MORE;
                case AT_LEAST:
                    return Laws.MORE_OR_LIKE;
                case '=':
                    return Laws.LIKE;
                case '#':
                    return Laws.UNLIKE;
                default:
                    return NONE;
            }
        }

        /** The next token, its place and the place behind it. */
        private void advance() {
            place = behind;
            while (place < length && (tape[place] == ' ' || tape[place] == 10)) {
                place++;
            }
            behind = place + 1;
            if (place >= length) {
                place = length;
                behind = length;
                token = END_OF_TAPE;
            } else if (isDigit(tape[place])) {
                readDigits();
            } else if (isLetter(tape[place])) {
                readWord();
            } else {
                token = signAt(place);
                behind = token == AT_MOST || token == AT_LEAST ? place + 2 : place + 1;
            }
        }

        private void readDigits() {
            token = DIGITS;
            number = 0;
            behind = place;
            while (behind < length && isDigit(tape[behind])) {
                number = Math.min(MOST_NUMBER + 1, number * 10 + tape[behind] - '0');
                behind++;
            }
        }

        private void readWord() {
            while (behind < length && isLetter(tape[behind])) {
                behind++;
            }
            token = STRANGE;
            int word = TIRES;
            int same = 0;
            for (int i = 0; i < WORDS.length() && token == STRANGE; i++) {
                char sign = WORDS.charAt(i);
                if (sign != ' ') {
                    boolean goesOn = same >= 0 && place + same < behind && tape[place + same] == sign;
                    same = goesOn ? same + 1 : NONE;
                } else if (same == behind - place) {
                    token = word;
                } else {
                    word++;
                    same = 0;
                }
            }
        }

        private int signAt(int at) {
            boolean likeToo = at + 1 < length && tape[at + 1] == '=';
            switch (tape[at]) {
                case '<':
                    return likeToo ? AT_MOST : '<';
                case '>':
                    return likeToo ? AT_LEAST : '>';
                case '=':
                case '#':
                case '+':
                case '-':
                case '*':
                case '/':
                case '(':
                case ')':
                case ';':
                    return tape[at];
                default:
                    return STRANGE;
            }
        }

        private static boolean isDigit(int sign) {
            return sign >= '0' && sign <= '9';
        }

        private static boolean isLetter(int sign) {
            return sign >= 'a' && sign <= 'z' || sign >= 'A' && sign <= 'Z';
        }
    }

    /**
     * Chains of sums: the lowest of the shortest ones in which certain numbers are, and how many
     * shortest ones a number has. What was found once is kept.
     */
    private static final class Chains {
        static final int MOST = 120;
        /** Numbers to 120 take 9 joinings at most, four orders to 40 take 10. */
        private static final int MOST_LINKS = 24;
        private static final int ROW = 10;
        private static final int BEYOND = 1000;

        private final int[] links = new int[MOST_LINKS];
        // As bits: which numbers below 64 the first links have (those above are joined with them
        // alone, as two of them make more than 120), and the sums 0 .. 63 and 64 .. 127 of two links.
        private final long[] has = new long[MOST_LINKS];
        private final long[] sumLow = new long[MOST_LINKS];
        private final long[] sumHigh = new long[MOST_LINKS];
        private final int[] wanted = new int[MOST_ORDERS];
        private int wantedCount;
        private int joinings;

        private final int[] numbersKnown = new int[MOST + 1];
        private final int[] rows = new int[(MOST + 1) * ROW];
        private final long[] ways = new long[MOST + 1];
        private final int[] fulfilledOrders = new int[MOST_ORDERS];
        private int fulfilledCount;
        final int[] fulfilling = new int[MOST_LINKS];
        int fulfilled;

        int joiningsOf(int n) {
            if (n < 1 || n > MOST) {
                return NONE;
            }
            if (numbersKnown[n] == 0) {
                wantedCount = 0;
                want(n);
                findLowest();
                numbersKnown[n] = Math.min(ROW, joinings + 1);
                System.arraycopy(links, 0, rows, n * ROW, numbersKnown[n]);
            }
            return numbersKnown[n] - 1;
        }

        /** Behind joiningsOf: the i-th number of the lowest shortest chain. */
        int linkOf(int n, int i) {
            if (n < 1 || n > MOST || i < 0 || i >= numbersKnown[n]) {
                return NONE;
            }
            return rows[n * ROW + i];
        }

        int joiningsOfBoth(int a, int b) {
            wantedCount = 0;
            want(a);
            want(b);
            findLowest();
            return joinings;
        }

        void fulfil(int[] orders, int count) {
            if (fulfilled > 0 && isFulfilled(orders, count)) {
                return;
            }
            wantedCount = 0;
            for (int i = 0; i < count && i < orders.length && i < MOST_ORDERS; i++) {
                fulfilledOrders[i] = orders[i];
                want(orders[i]);
            }
            fulfilledCount = count;
            findLowest();
            fulfilled = joinings + 1;
            System.arraycopy(links, 0, fulfilling, 0, fulfilled);
        }

        private boolean isFulfilled(int[] orders, int count) {
            if (count != fulfilledCount) {
                return false;
            }
            for (int i = 0; i < count && i < orders.length && i < MOST_ORDERS; i++) {
                if (orders[i] != fulfilledOrders[i]) {
                    return false;
                }
            }
            return true;
        }

        /** The wanted numbers go up; 1 stands in every chain. */
        private void want(int n) {
            int at = 0;
            while (at < wantedCount && wanted[at] < n) {
                at++;
            }
            if (n == 1 || wantedCount >= MOST_ORDERS || at < wantedCount && wanted[at] == n) {
                return;
            }
            for (int i = wantedCount; i > at; i--) {
                wanted[i] = wanted[i - 1];
            }
            wanted[at] = n;
            wantedCount++;
        }

        private void findLowest() {
            joinings = 0;
            put(0, 1);
            if (wantedCount == 0) {
                return;
            }
            for (int most = wantedCount; most < MOST_LINKS; most++) {
                joinings = most;
                if (goesOn(0, 0)) {
                    return;
                }
            }
        }

        /**
         * Whether links 0 .. k go on to a chain of so many joinings with all that is wanted, of
         * which so many stand there: the lowest such is in links then.
         */
        private boolean goesOn(int k, int met) {
            int left = joinings - k;
            if (met >= wantedCount) {
                return left == 0;
            }
            if (left < wantedCount - met) {
                return false;
            }
            int last = wanted[wantedCount - 1];
            int next = wanted[met];
            int low = Math.max(links[k] + 1, leastNext(last, left));
            for (int v = low; v <= next; v++) {
                v = Math.max(v, sumFrom(k, v));
                if (v > next) {
                    break;
                }
                // A last link that doesn't come of the next one would make a shorter chain.
                if (left == 2 && next == last && v + v != last && !isLink(k, last - v)) {
                    continue;
                }
                put(k + 1, v);
                if (goesOn(k + 1, v == next ? met + 1 : met)) {
                    return true;
                }
            }
            return false;
        }

        private boolean isLink(int k, int v) {
            return v >= 0 && v < 64 && (has[k] >>> v & 1) == 1;
        }

        /**
         * What the next of so many links that are left must be at least, as each can be twice the
         * one ahead at most; an odd last one is no double, so two links make it three times at most.
         */
        private static int leastNext(int last, int left) {
            int further = Math.max(left - 1, 0);
            int growth = further >= 2 && last % 2 == 1 ? 3 << further - 2 : 1 << further;
            return (last + growth - 1) / growth;
        }

        private void put(int k, int v) {
            long lower = k > 0 ? has[k - 1] : 0;
            long sumsLow = k > 0 ? sumLow[k - 1] : 0;
            long sumsHigh = k > 0 ? sumHigh[k - 1] : 0;
            if (v < 64) {
                lower |= 1L << v;
                sumsLow |= lower << v;
                sumsHigh |= lower >>> 64 - v;
            } else {
                sumsHigh |= lower << v - 64;
            }
            links[k] = v;
            has[k] = lower;
            sumLow[k] = sumsLow;
            sumHigh[k] = sumsHigh;
        }

        private boolean isSum(int k, int v) {
            return ((v < 64 ? sumLow[k] >>> v : sumHigh[k] >>> v - 64) & 1) == 1;
        }

        /** The least sum of two of links 0 .. k that is v or more. */
        private int sumFrom(int k, int v) {
            if (v < 64 && sumLow[k] >>> v != 0) {
                return v + Long.numberOfTrailingZeros(sumLow[k] >>> v);
            }
            int above = Math.max(v, 64) - 64;
            if (above < 64 && sumHigh[k] >>> above != 0) {
                return 64 + above + Long.numberOfTrailingZeros(sumHigh[k] >>> above);
            }
            return BEYOND;
        }

        long waysOf(int n) {
            if (n < 1 || n > MOST) {
                return NONE;
            }
            if (ways[n] == 0) {
                joinings = joiningsOf(n);
                put(0, 1);
                ways[n] = joinings < 2 ? 1 : tally(0, n);
            }
            return ways[n];
        }

        private long tally(int k, int n) {
            int left = joinings - k;
            if (left <= 2) {
                return endings(k, n);
            }
            long sum = 0;
            int low = Math.max(links[k] + 1, leastNext(n, left));
            for (int v = low; v < n; v++) {
                v = Math.max(v, sumFrom(k, v));
                if (v < n) {
                    put(k + 1, v);
                    sum += tally(k + 1, n);
                }
            }
            return sum;
        }

        /** In how many ways links 0 .. k have n as the second behind them. */
        private long endings(int k, int n) {
            long sum = n % 2 == 0 && n / 2 > links[k] && isSum(k, n / 2) ? 1 : 0;
            for (int i = 0; i <= k; i++) {
                if (n - links[i] > links[k] && isSum(k, n - links[i])) {
                    sum++;
                }
            }
            return sum;
        }
    }

    /** The least that a chain costs if doublings and other joinings have each a cost. */
    private static final class Spending {
        /** A chain of numbers to 40 has no more links. */
        private static final int MOST_LINKS = 40;

        private int goal;
        private int twice;
        private int joined;
        private int best;

        int least(int n, int doubling, int joining) {
            goal = n;
            twice = doubling;
            joined = joining;
            best = goal * (doubling + joining);
            spend(1, 2L, 0L, 0, 1);
            return best;
        }

        /** Goes on from the last of the numbers there (bits), pairs being sums of unlike ones. */
        private void spend(int last, long there, long pairs, int paid, int links) {
            if (last == goal) {
                best = paid;
                return;
            }
            for (int v = Math.min(goal, 2 * last); v > last && links < MOST_LINKS; v--) {
                boolean doubles = v % 2 == 0 && (there >>> v / 2 & 1) == 1;
                boolean sums = (pairs >>> v & 1) == 1;
                if (!doubles && !sums) {
                    continue;
                }
                int price = doubles && sums ? Math.min(twice, joined) : doubles ? twice : joined;
                long more = there | 1L << v;
                if (paid + price + leastFrom(v, more) < best) {
                    spend(v, more, pairs | there << v, paid + price, links + 1);
                }
            }
        }

        /** What must be paid yet at least: each step doubles at most. */
        private int leastFrom(int last, long there) {
            int steps = 0;
            for (int v = Math.max(last, 1); v < goal; v *= 2) {
                steps++;
            }
            if (steps == 0 || joined <= twice) {
                return steps * Math.min(twice, joined);
            }
            int withJoining = (steps - 1) * twice + joined;
            int doublings = doublingsFrom(there);
            return doublings == NONE ? withJoining : Math.min(doublings * twice, withJoining);
        }

        /** How many doublings of a number there make the goal; NONE if it needs a joining. */
        private int doublingsFrom(long there) {
            int doublings = 0;
            for (int v = goal; v > 0; v /= 2) {
                if ((there >>> v & 1) == 1) {
                    return doublings;
                }
                if (v % 2 == 1) {
                    return NONE;
                }
                doublings++;
            }
            return NONE;
        }
    }

    /** The fewest joinings to a number by few crocks. */
    private static final class Shelf {
        static final int MOST = 40;
        static final int MOST_CROCKS = 3;
        private static final int UNKNOWN = -2;

        private final int[] found = new int[(MOST + 1) * (MOST_CROCKS + 1)];
        private final int[] stand = new int[MOST_CROCKS];
        private int crocks;
        private int goal;

        Shelf() {
            for (int i = 0; i < found.length; i++) {
                found[i] = UNKNOWN;
            }
        }

        /** Few crocks can't do with less than the fewest, and two never need more than by halves. */
        int joiningsOf(int n, int crockCount, int fewest, int byHalves) {
            int at = n * (MOST_CROCKS + 1) + crockCount;
            if (found[at] == UNKNOWN) {
                found[at] = sought(n, crockCount, fewest, byHalves);
            }
            return found[at];
        }

        private int sought(int n, int crockCount, int fewest, int byHalves) {
            goal = n;
            crocks = crockCount;
            for (int joinings = fewest; joinings <= byHalves; joinings++) {
                for (int i = 0; i < MOST_CROCKS; i++) {
                    stand[i] = i == 0 ? 1 : 0;
                }
                if (joinings == 0 || reachable(joinings)) {
                    return joinings;
                }
            }
            return NONE;
        }

        private boolean reachable(int left) {
            int most = 0;
            for (int i = 0; i < crocks; i++) {
                most = Math.max(most, stand[i]);
            }
            if (left < 1 || most << left < goal) {
                return false;
            }
            for (int a = 0; a < crocks; a++) {
                for (int b = a; b < crocks; b++) {
                    int sum = stand[a] + stand[b];
                    if (stand[a] == 0 || stand[b] == 0 || sum > goal) {
                        continue;
                    }
                    if (sum == goal || left > 1 && !stands(sum) && reachableWith(sum, left - 1)) {
                        return true;
                    }
                }
            }
            return false;
        }

        private boolean stands(int amount) {
            for (int i = 0; i < crocks; i++) {
                if (stand[i] == amount) {
                    return true;
                }
            }
            return false;
        }

        /** An empty crock is always as good as one that must be poured out. */
        private boolean reachableWith(int sum, int left) {
            for (int i = crocks - 1; i >= 0; i--) {
                int was = stand[i];
                stand[i] = sum;
                boolean reached = reachable(left);
                stand[i] = was;
                if (reached || was == 0) {
                    return reached;
                }
            }
            return false;
        }
    }

    /** The fewest further numbers to one if spoons take away, too. */
    private static final class Spoonful {
        static final int MOST = 40;
        private static final int HIGHEST = 80;
        private static final int MOST_NUMBERS = 12;

        private final int[] known = new int[MOST + 1];
        private final int[] numbers = new int[MOST_NUMBERS];
        private int goal;

        int fewestOf(int n) {
            if (known[n] == 0) {
                known[n] = 1 + sought(n);
            }
            return known[n] - 1;
        }

        private int sought(int n) {
            goal = n;
            numbers[0] = 1;
            for (int further = 1; n > 1 && further < MOST_NUMBERS; further++) {
                if (reachable(1, further)) {
                    return further;
                }
            }
            return 0;
        }

        /** As fewer were tried before, the last one has to come of the newest number. */
        private boolean reachable(int count, int left) {
            int newest = numbers[count - 1];
            if (left == 1) {
                for (int i = 0; i < count; i++) {
                    if (newest + numbers[i] == goal || Math.abs(newest - numbers[i]) == goal) {
                        return true;
                    }
                }
                return false;
            }
            for (int a = 0; a < count; a++) {
                for (int b = 0; b <= a; b++) {
                    if (reachableWith(numbers[a] + numbers[b], count, left - 1)
                            || reachableWith(Math.abs(numbers[a] - numbers[b]), count, left - 1)) {
                        return true;
                    }
                }
            }
            return false;
        }

        private boolean reachableWith(int number, int count, int left) {
            if (number < 1 || number > HIGHEST || count >= MOST_NUMBERS) {
                return false;
            }
            for (int i = 0; i < count; i++) {
                if (numbers[i] == number) {
                    return false;
                }
            }
            numbers[count] = number;
            return reachable(count + 1, left);
        }
    }
}
