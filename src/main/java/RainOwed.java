import java.util.Arrays;
import java.util.NoSuchElementException;

/** Fields in a row to which the sky owes rain; ../shared/DOC.md says what each call promises. */
public final class RainOwed {
    public static final int NONE = -1;
    public static final int HIDDEN = -1000000;

    private static final int NO_SUCH_SORT = -2;
    private static final int MOST_FIELDS = 6;
    private static final int FEWEST_FIELDS = 2;
    private static final int MOST_TEXTS = 4;
    private static final int MOST_BYTES = 240;
    private static final int MOST_RAIN = 99;
    private static final int MOST_DEBT = 99;
    private static final int MOST_PAID = 99;
    private static final int MOST_OWED = 999;
    private static final int MOST_COINS = 999;
    private static final int MOST_WATER = 30;
    private static final int MOST_PRICE = 30;
    private static final int LAST_YEAR = 999;
    private static final int MOST_AT_ONCE = 20;
    private static final int MOST_IN_BEST = 9;
    private static final int MOVES = 6;
    private static final int MOST_HERESY = 9;
    private static final int CAN_COSTS = 3;
    private static final int CAN_HOLDS = 2;
    private static final int FAR_AHEAD = 60;
    private static final int MOST_AHEAD = 30;
    private static final int MOST_YEARS = 60;
    private static final int MOST_SHARED = 999;
    private static final int MILLION = 1000000;
    private static final long DRAW_TIMES = 6364136223846793005L;
    private static final long DRAW_MORE = 1442695040888963407L;

    private final Tape tape = new Tape();
    private final PlainReader plainReader = new PlainReader(tape);
    private final LawReader lawReader = new LawReader(tape);
    private final PlanReader planReader = new PlanReader(tape);
    private final Law[] laws = new Law[MOST_TEXTS];
    private final Plan[] plans = new Plan[MOST_TEXTS];
    private int lawCount;
    private int planCount;
    private int holding = NONE;
    private int heresyNow;
    private final Land land = new Land();
    private final Land guess = new Land();
    private final Sky sky = new Sky();
    private final Chronicle chronicle = new Chronicle();
    private final Past past = new Past();
    private final Facts facts = new Facts();
    private final int[] ones = new int[MOVES * MOVES];
    private final int[] others = new int[MOVES * MOVES];
    private final int[] coinsWithout = new int[MOST_FIELDS];

    public RainOwed() {
    }

    // ---- the tape and what is told by it

    public int feed(int a, int b, int c, int d, int e) {
        int more = Tape.signsIn(a) + Tape.signsIn(b) + Tape.signsIn(c) + Tape.signsIn(d) + Tape.signsIn(e);
        if (tape.length + more > MOST_BYTES) {
            return NONE;
        }
        tape.put(a);
        tape.put(b);
        tape.put(c);
        tape.put(d);
        tape.put(e);
        return tape.length;
    }

    public boolean end(int n) {
        if (n < 0 || n > tape.length) {
            return false;
        }
        tape.length = n;
        return true;
    }

    public int fault(int sort) {
        if (sort < 0 || sort > 2) {
            return NO_SUCH_SORT;
        }
        return reads(sort) ? NONE : tape.at;
    }

    public int text(int sort) {
        if (sort < 0 || sort > 2 || !reads(sort)) {
            return NONE;
        }
        int answer = sort == 0 ? settleThere() : sort == 1 ? enact() : intend();
        if (answer != NONE) {
            tape.length = 0;
        }
        return answer;
    }

    private boolean reads(int sort) {
        return sort == 0 ? plainReader.read() : sort == 1 ? lawReader.read() : planReader.read();
    }

    private int settleThere() {
        land.copyFrom(plainReader.draft);
        past.kept = 0;
        past.hasImage = false;
        facts.known = 0;
        return land.fields;
    }

    private int enact() {
        if (lawCount >= MOST_TEXTS) {
            return NONE;
        }
        laws[lawCount] = lawReader.toLaw();
        return lawCount++;
    }

    private int intend() {
        if (planCount >= MOST_TEXTS) {
            return NONE;
        }
        plans[planCount] = planReader.toPlan();
        return planCount++;
    }

    // ---- what is there

    public int rule(int what) {
        if (land.fields == 0) {
            return NONE;
        }
        switch (what) {
            case 0: return land.interest;
            case 1: return land.drown;
            case 2: return land.price;
            default: return NONE;
        }
    }

    public int field(int field, int what) throws NoSuchElementException {
        if (!land.has(field) || what < 0 || what > 4) {
            throw new NoSuchElementException();
        }
        switch (what) {
            case 0: return land.owed[field];
            case 1: return land.needs[field];
            case 2: return land.water[field];
            case 3: return land.value[field];
            default: return land.coins[field];
        }
    }

    public int count(int what) {
        switch (what) {
            case 0: return land.fields;
            case 1: return lawCount;
            case 2: return planCount;
            case 3: return tape.length;
            case 4: return holding;
            case 5: return land.year;
            case 6: return land.sum(land.coins);
            case 7: return heresyNow;
            case 8: return facts.known;
            case 9: return Chronicle.lengthIn(land.year);
            case 10: return past.kept;
            default: return HIDDEN;
        }
    }

    public int log(int i, int what) {
        if (i < 0 || i >= Chronicle.lengthIn(land.year) || what < 0 || what > 2) {
            return NONE;
        }
        return chronicle.entry(land.year - 1 - i, what);
    }

    public int step(int plan, int i, int what) {
        Plan told = planAt(plan);
        if (told == null || i < 0 || i >= told.steps || what < 0 || what > 2) {
            return HIDDEN;
        }
        return what == 0 ? told.kind[i] : what == 1 ? told.first[i] : told.second[i];
    }

    public int all(int what) {
        if (land.fields == 0) {
            return NONE;
        }
        switch (what) {
            case 0: return land.lowest(land.coins);
            case 1: return land.lowest(land.water);
            case 2: return land.highest(land.owed);
            case 3: return land.highest(land.needs);
            case 4: return land.sum(land.owed);
            case 5: return land.needs[land.highest(land.needs)] * land.fields;
            case 6: return land.thirsty();
            default: return NONE;
        }
    }

    public int shares(int field, int c) {
        if (!land.has(field) || c < 0 || c > MOST_SHARED) {
            return NONE;
        }
        int owedToAll = land.sum(land.owed);
        return owedToAll == 0 ? 0 : c * land.owed[field] / owedToAll;
    }

    public int buyers(int n) {
        if (land.fields == 0 || !isSomeAtOnce(n)) {
            return NONE;
        }
        int bits = 0;
        for (int f = 0; f < land.fields; f++) {
            if (land.coins[f] >= n * land.price) {
                bits |= 1 << f;
            }
        }
        return bits;
    }

    // ---- what holds, and acts by hand

    public boolean law(int law) {
        if (law < NONE || law >= lawCount) {
            return false;
        }
        holding = law;
        sky.law = law == NONE ? null : laws[law];
        return true;
    }

    public boolean heresy(int v) {
        if (v < 0 || v > MOST_HERESY || v == heresyNow) {
            return false;
        }
        heresyNow = v;
        return true;
    }

    public int year(int rain) {
        if (!isSky(rain) || land.year >= LAST_YEAR) {
            return NONE;
        }
        past.keep(land);
        return goBy(rain);
    }

    public int sell(int field, int other, int n) {
        if (!isPair(field, other) || !isSomeAtOnce(n) || !land.isSale(field, other, n)) {
            return NONE;
        }
        past.keep(land);
        land.handOver(field, other, n);
        return land.coins[field];
    }

    public int forgive(int field, int n) {
        if (!land.isMist(field, n)) {
            return NONE;
        }
        past.keep(land);
        land.turnToMist(field, n);
        return land.owed[field];
    }

    public int hedge(int field) {
        if (!land.isHedge(field)) {
            return NONE;
        }
        past.keep(land);
        land.moveHedge(field);
        return land.owed[field];
    }

    public int can(int field) {
        if (!land.isCan(field)) {
            return NONE;
        }
        past.keep(land);
        land.fillCan(field);
        return land.water[field];
    }

    public int price(int v) {
        if (land.fields == 0 || v < 0 || v > MOST_PRICE || v == land.price) {
            return NONE;
        }
        past.keep(land);
        int before = land.price;
        land.price = v;
        return before;
    }

    public int years(int n, long seed) {
        if (land.fields == 0 || n < 1 || n > MOST_YEARS || land.year + n > LAST_YEAR) {
            return NONE;
        }
        long x = seed;
        for (int k = 0; k < n; k++) {
            past.keep(land);
            x = stirred(x);
            if (drawn(x, 10) < heresyNow) {
                x = stirred(x);
                int doubted = drawn(x, land.fields);
                land.owed[doubted] -= land.owed[doubted] / 2;
            }
            x = stirred(x);
            goBy(drawn(x, MOST_RAIN + 1));
        }
        return land.year;
    }

    private static long stirred(long x) {
        return x * DRAW_TIMES + DRAW_MORE;
    }

    private static int drawn(long x, int below) {
        return below <= 0 ? 0 : (int) ((x >>> 33) % below);
    }

    public int undo() {
        return past.restore(land) ? past.kept : NONE;
    }

    public int image() {
        if (land.fields == 0) {
            return NONE;
        }
        past.keepImage(land, chronicle);
        return land.year;
    }

    public int back() {
        return past.bringImage(land, chronicle) ? land.year : NONE;
    }

    /** A year of the land itself, which is told in the log. */
    private int goBy(int rain) {
        sky.look(land, rain);
        chronicle.tell(land.year, rain, sky.drowned, sky.borneByAll);
        sky.settle(land);
        return sky.borneByAll;
    }

    // ---- plans

    public int run(int plan, int what) {
        Plan told = planAt(plan);
        if (told == null || land.fields == 0 || what < 0 || what > 1) {
            return HIDDEN;
        }
        guess.copyFrom(land);
        int borne = 0;
        for (int i = 0; i < told.steps; i++) {
            if (!isStep(guess, told, i)) {
                return what == 0 ? i : borne;
            }
            if (told.kind[i] == Plan.YEAR) {
                sky.look(guess, told.first[i]);
                sky.settle(guess);
                borne += sky.borneByAll;
            } else {
                take(guess, told, i);
            }
        }
        return what == 0 ? NONE : borne;
    }

    public int perform(int plan) {
        Plan told = planAt(plan);
        if (told == null || land.fields == 0) {
            return NONE;
        }
        for (int i = 0; i < told.steps; i++) {
            if (!isStep(land, told, i)) {
                return i;
            }
            past.keep(land);
            if (told.kind[i] == Plan.YEAR) {
                goBy(told.first[i]);
            } else {
                take(land, told, i);
            }
        }
        return told.steps;
    }

    private Plan planAt(int plan) {
        return plan < 0 || plan >= planCount ? null : plans[plan];
    }

    private static boolean isStep(Land where, Plan told, int i) {
        switch (told.kind[i]) {
            case Plan.YEAR: return where.year < LAST_YEAR;
            case Plan.MIST: return where.isMist(told.first[i], told.second[i]);
            case Plan.HEDGE: return where.isHedge(told.first[i]);
            default: return where.isCan(told.first[i]);
        }
    }

    private static void take(Land where, Plan told, int i) {
        switch (told.kind[i]) {
            case Plan.MIST: where.turnToMist(told.first[i], told.second[i]); break;
            case Plan.HEDGE: where.moveHedge(told.first[i]); break;
            default: where.fillCan(told.first[i]); break;
        }
    }

    // ---- what is asked apart, from as it is

    public int falls(int field, int rain) {
        if (!land.has(field) || !isRain(rain)) {
            return NONE;
        }
        sky.look(land, rain);
        return sky.fallen[field];
    }

    public int drowns(int rain) {
        if (!isSky(rain)) {
            return NONE;
        }
        sky.look(land, rain);
        return sky.drowned;
    }

    public int harvest(int rain) {
        if (!isSky(rain)) {
            return NONE;
        }
        sky.look(land, rain);
        return sky.borneByAll;
    }

    public int safe() {
        if (land.fields == 0) {
            return NONE;
        }
        for (int rain = MOST_RAIN; rain >= 0; rain--) {
            sky.look(land, rain);
            if (sky.drowned == 0) {
                return rain;
            }
        }
        return NONE;
    }

    public int odds(int field, int a, int b) {
        if (!land.has(field) || a < 0 || b < a || b > MOST_RAIN) {
            return NONE;
        }
        int drownings = 0;
        for (int rain = a; rain <= b; rain++) {
            sky.look(land, rain);
            drownings += sky.drowned >> field & 1;
        }
        return drownings * MILLION / (b - a + 1);
    }

    public int least(int rain, int what) {
        if (!isSky(rain) || what < 0 || what > 1) {
            return NONE;
        }
        sky.look(land, rain);
        if (sky.drowned == 0) {
            return 0;
        }
        guess.copyFrom(land);
        int field = NONE;
        int least = MOST_OWED + 1;
        for (int f = 0; f < land.fields; f++) {
            int less = leastOf(f, rain, least);
            if (less < least) {
                least = less;
                field = f;
            }
        }
        return field == NONE ? NONE : what == 0 ? field : least;
    }

    /** How much less, if below a bound, has to be owed to a field so that nobody drowns; else the bound. */
    private int leastOf(int f, int rain, int bound) {
        int answer = bound;
        for (int less = 1; less <= land.owed[f] && less < bound; less++) {
            guess.owed[f] = land.owed[f] - less;
            sky.weigh(guess, f);
            if (!sky.drownsAny(guess, rain)) {
                answer = less;
                break;
            }
        }
        guess.owed[f] = land.owed[f];
        sky.weigh(guess, f);
        return answer;
    }

    public int best(int rain, int what) {
        if (!isSky(rain) || what < 0 || what > 1) {
            return NONE;
        }
        int best = NONE;
        int most = NONE;
        for (int seller = 0; seller < land.fields; seller++) {
            for (int buyer = 0; buyer < land.fields; buyer++) {
                for (int n = 1; n <= MOST_IN_BEST; n++) {
                    if (seller != buyer && land.isSale(seller, buyer, n)) {
                        lookBehindSale(seller, buyer, n, rain);
                        if (sky.borneByAll > most) {
                            most = sky.borneByAll;
                            best = 100 * seller + 10 * buyer + n;
                        }
                    }
                }
            }
        }
        return what == 0 ? best : most;
    }

    private void lookBehindSale(int seller, int buyer, int n, int rain) {
        guess.copyFrom(land);
        guess.handOver(seller, buyer, n);
        sky.look(guess, rain);
    }

    public int trades(int rain, int i) {
        if (!isSky(rain) || i < NONE) {
            return NONE;
        }
        guess.copyFrom(land);
        sky.look(guess, rain);
        sky.settle(guess);
        System.arraycopy(guess.coins, 0, coinsWithout, 0, MOST_FIELDS);
        int found = 0;
        for (int seller = 0; seller < land.fields; seller++) {
            for (int buyer = 0; buyer < land.fields; buyer++) {
                if (seller != buyer && bothWant(seller, buyer, rain)) {
                    if (found == i) {
                        return 10 * seller + buyer;
                    }
                    found++;
                }
            }
        }
        return i == NONE ? found : NONE;
    }

    private boolean bothWant(int seller, int buyer, int rain) {
        if (!land.isSale(seller, buyer, 1)) {
            return false;
        }
        lookBehindSale(seller, buyer, 1, rain);
        sky.settle(guess);
        return guess.coins[seller] > coinsWithout[seller] && guess.coins[buyer] > coinsWithout[buyer];
    }

    // ---- debts that fit what fell

    public int fell(int field, int rain, int v, boolean had) {
        if (!land.has(field) || !isRain(rain) || v < 0 || v > MOST_RAIN || facts.isFull()) {
            return NONE;
        }
        facts.note(field, rain, v, had);
        return facts.known;
    }

    public int debts(int field, int i) {
        if (!land.has(field) || i < NONE) {
            return NONE;
        }
        int fitting = fitDebts(field);
        if (i == NONE) {
            return fitting;
        }
        return i < fitting ? facts.debts[i] : NONE;
    }

    /** Lists the debts that fit all facts of a field; how many they are. */
    private int fitDebts(int field) {
        guess.copyFrom(land);
        facts.allowAll();
        for (int k = 0; k < facts.known; k++) {
            if (facts.field[k] == field) {
                int rain = facts.rain[k];
                sky.weighAll(guess, rain);
                for (int debt = 0; debt <= MOST_DEBT; debt++) {
                    guess.owed[field] = debt;
                    sky.weigh(guess, field);
                    boolean had = sky.fallOn(field, rain) >= facts.amount[k];
                    facts.allowed[debt] = facts.allowed[debt] && had == facts.had[k];
                }
            }
        }
        return facts.listAllowed();
    }

    public int ask(int field, int v) {
        if (!land.has(field) || v < 0 || v > MOST_RAIN) {
            return NONE;
        }
        int fitting = fitDebts(field);
        if (fitting == 0) {
            return NONE;
        }
        int best = NONE;
        int leastApart = MOST_DEBT + 2;
        for (int rain = 0; rain <= MOST_RAIN; rain++) {
            if (rain % land.fields == 0) {
                weighDebts(field, rain, fitting);
            }
            int apart = Math.abs(2 * countYes(field, rain, v, fitting) - fitting);
            if (apart < leastApart) {
                leastApart = apart;
                best = rain;
            }
        }
        return best;
    }

    /** What is due by each debt is the same for all rain of one share: it is worked out once for it. */
    private void weighDebts(int field, int rain, int fitting) {
        sky.weighAll(guess, rain);
        for (int k = 0; k < fitting; k++) {
            guess.owed[field] = facts.debts[k];
            sky.weigh(guess, field);
            facts.grown[k] = sky.grown[field];
            facts.due[k] = sky.due[field];
        }
    }

    private int countYes(int field, int rain, int v, int fitting) {
        int yes = 0;
        for (int k = 0; k < fitting; k++) {
            sky.grown[field] = facts.grown[k];
            sky.due[field] = facts.due[k];
            if (sky.fallOn(field, rain) >= v) {
                yes++;
            }
        }
        return yes;
    }

    // ---- games of two

    public int game(int one, int other, int rain, int x, int y, int what) {
        if (!isPair(one, other) || !isRain(rain) || !isMove(x) || !isMove(y) || what < 0 || what > 1) {
            return HIDDEN;
        }
        play(one, other, rain, x, y);
        return what == 0 ? sky.borne[one] - x : sky.borne[other] - y;
    }

    private void play(int one, int other, int rain, int x, int y) {
        guess.copyFrom(land);
        guess.owed[one] -= Math.min(x, guess.owed[one]);
        guess.owed[other] -= Math.min(y, guess.owed[other]);
        sky.look(guess, rain);
    }

    public int rests(int one, int other, int rain, int i) {
        if (!isPair(one, other) || !isRain(rain) || i < NONE) {
            return NONE;
        }
        for (int x = 0; x < MOVES; x++) {
            for (int y = 0; y < MOVES; y++) {
                play(one, other, rain, x, y);
                ones[x * MOVES + y] = sky.borne[one] - x;
                others[x * MOVES + y] = sky.borne[other] - y;
            }
        }
        int found = 0;
        for (int x = 0; x < MOVES; x++) {
            for (int y = 0; y < MOVES; y++) {
                if (isRest(x, y)) {
                    if (found == i) {
                        return 10 * x + y;
                    }
                    found++;
                }
            }
        }
        return i == NONE ? found : NONE;
    }

    private boolean isRest(int x, int y) {
        int at = x * MOVES + y;
        for (int k = 0; k < MOVES; k++) {
            if (ones[k * MOVES + y] > ones[at] || others[x * MOVES + k] > others[at]) {
                return false;
            }
        }
        return true;
    }

    // ---- who is paid when, and years ahead

    public int turn(int i) {
        if (!land.has(i)) {
            return NONE;
        }
        sky.weighAll(land, 0);
        for (int f = 0; f < land.fields; f++) {
            if (sky.rank(f) == i) {
                return f;
            }
        }
        return NONE;
    }

    public int forgiven(int field) {
        if (!land.has(field)) {
            return NONE;
        }
        guess.copyFrom(land);
        sky.weighAll(guess, 0);
        for (int less = 0; less <= land.owed[field]; less++) {
            sky.grown[field] = land.withInterest(land.owed[field] - less);
            if (sky.rank(field) > 0) {
                return less;
            }
        }
        return NONE;
    }

    public int ahead(int field, int n, int rain) {
        if (!land.has(field) || n < 0 || n > MOST_AHEAD || !isRain(rain)) {
            return NONE;
        }
        guess.copyFrom(land);
        for (int k = 0; k < n; k++) {
            sky.look(guess, rain);
            sky.settle(guess);
        }
        return guess.owed[field];
    }

    public int even(int field, int rain) {
        if (!land.has(field) || !isRain(rain)) {
            return NONE;
        }
        guess.copyFrom(land);
        for (int k = 0; k <= FAR_AHEAD; k++) {
            if (guess.owed[field] == 0) {
                return k;
            }
            sky.look(guess, rain);
            sky.settle(guess);
        }
        return NONE;
    }

    public int together(int rain) {
        if (!isSky(rain)) {
            return NONE;
        }
        guess.copyFrom(land);
        for (int k = 1; k <= FAR_AHEAD; k++) {
            sky.look(guess, rain);
            if (Integer.bitCount(sky.drowned) >= 2) {
                return k;
            }
            sky.settle(guess);
        }
        return NONE;
    }

    // ---- bounds

    private static boolean isRain(int rain) {
        return rain >= 0 && rain <= MOST_RAIN;
    }

    private static boolean isSomeAtOnce(int n) {
        return n >= 1 && n <= MOST_AT_ONCE;
    }

    private static boolean isMove(int x) {
        return x >= 0 && x < MOVES;
    }

    private boolean isSky(int rain) {
        return land.fields > 0 && isRain(rain);
    }

    private boolean isPair(int one, int other) {
        return land.has(one) && land.has(other) && one != other;
    }

    private static int held(int low, int value, int high) {
        return value < low ? low : value > high ? high : value;
    }

    /** The fields, the rules, the price and the year; what can be done to them by hand. */
    private static final class Land {
        static final int ROW = 4 * MOST_FIELDS + 2;

        final int[] owed = new int[MOST_FIELDS];
        final int[] needs = new int[MOST_FIELDS];
        final int[] water = new int[MOST_FIELDS];
        final int[] value = new int[MOST_FIELDS];
        final int[] coins = new int[MOST_FIELDS];
        int fields;
        int interest;
        int drown;
        int price;
        int year;

        void copyFrom(Land other) {
            System.arraycopy(other.owed, 0, owed, 0, MOST_FIELDS);
            System.arraycopy(other.needs, 0, needs, 0, MOST_FIELDS);
            System.arraycopy(other.water, 0, water, 0, MOST_FIELDS);
            System.arraycopy(other.value, 0, value, 0, MOST_FIELDS);
            System.arraycopy(other.coins, 0, coins, 0, MOST_FIELDS);
            fields = other.fields;
            interest = other.interest;
            drown = other.drown;
            price = other.price;
            year = other.year;
        }

        /** Writes what can change within one plain. */
        void writeTo(int[] rows, int from) {
            if (from < 0 || from > rows.length - ROW) {
                return;
            }
            System.arraycopy(owed, 0, rows, from, MOST_FIELDS);
            System.arraycopy(needs, 0, rows, from + MOST_FIELDS, MOST_FIELDS);
            System.arraycopy(water, 0, rows, from + 2 * MOST_FIELDS, MOST_FIELDS);
            System.arraycopy(coins, 0, rows, from + 3 * MOST_FIELDS, MOST_FIELDS);
            rows[from + 4 * MOST_FIELDS] = price;
            rows[from + 4 * MOST_FIELDS + 1] = year;
        }

        void readFrom(int[] rows, int from) {
            if (from < 0 || from > rows.length - ROW) {
                return;
            }
            System.arraycopy(rows, from, owed, 0, MOST_FIELDS);
            System.arraycopy(rows, from + MOST_FIELDS, needs, 0, MOST_FIELDS);
            System.arraycopy(rows, from + 2 * MOST_FIELDS, water, 0, MOST_FIELDS);
            System.arraycopy(rows, from + 3 * MOST_FIELDS, coins, 0, MOST_FIELDS);
            price = rows[from + 4 * MOST_FIELDS];
            year = rows[from + 4 * MOST_FIELDS + 1];
        }

        boolean has(int f) {
            return f >= 0 && f < fields;
        }

        int withInterest(int debt) {
            return Math.min(MOST_OWED, debt + debt * interest / 10);
        }

        int sum(int[] row) {
            int sum = 0;
            for (int f = 0; f < fields; f++) {
                sum += row[f];
            }
            return sum;
        }

        int lowest(int[] row) {
            int found = 0;
            for (int f = 1; f < fields; f++) {
                if (row[f] < row[found]) {
                    found = f;
                }
            }
            return found;
        }

        int highest(int[] row) {
            int found = 0;
            for (int f = 1; f < fields; f++) {
                if (row[f] > row[found]) {
                    found = f;
                }
            }
            return found;
        }

        int thirsty() {
            int bits = 0;
            for (int f = 0; f < fields; f++) {
                if (needs[f] > water[f]) {
                    bits |= 1 << f;
                }
            }
            return bits;
        }

        boolean isSale(int seller, int buyer, int n) {
            int cost = n * price;
            return owed[seller] >= n && coins[buyer] >= cost && coins[seller] + cost <= MOST_COINS;
        }

        void handOver(int seller, int buyer, int n) {
            owed[seller] -= n;
            owed[buyer] = Math.min(MOST_OWED, owed[buyer] + n);
            coins[seller] += n * price;
            coins[buyer] -= n * price;
        }

        boolean isMist(int f, int n) {
            return has(f) && isSomeAtOnce(n) && n <= owed[f];
        }

        void turnToMist(int f, int n) {
            owed[f] -= n;
            for (int k = 0; k < fields; k++) {
                water[k] = Math.min(MOST_WATER, water[k] + 1);
            }
        }

        boolean isHedge(int f) {
            return has(f) && has(f + 1) && (owed[f] != owed[f + 1] || needs[f] != needs[f + 1]);
        }

        void moveHedge(int f) {
            int debt = owed[f];
            owed[f] = owed[f + 1];
            owed[f + 1] = debt;
            int need = needs[f];
            needs[f] = needs[f + 1];
            needs[f + 1] = need;
        }

        boolean isCan(int f) {
            return has(f) && coins[f] >= CAN_COSTS && water[f] < MOST_WATER;
        }

        void fillCan(int f) {
            coins[f] -= CAN_COSTS;
            water[f] = Math.min(MOST_WATER, water[f] + CAN_HOLDS);
        }
    }

    /**
     * Works out a year: first what is due to each field, then what falls and what comes of it;
     * the land is only changed by settle.
     */
    private static final class Sky {
        Law law;
        final int[] grown = new int[MOST_FIELDS];
        final int[] due = new int[MOST_FIELDS];
        final int[] fallen = new int[MOST_FIELDS];
        final int[] borne = new int[MOST_FIELDS];
        final int[] letters = new int[MOST_FIELDS];
        int fields;
        int share;
        int drowned;
        int borneByAll;

        void look(Land land, int rain) {
            weighAll(land, rain);
            drowned = 0;
            borneByAll = 0;
            for (int f = 0; f < fields; f++) {
                fallen[f] = fallOn(f, rain);
                borne[f] = 0;
                if (fallen[f] >= land.drown) {
                    drowned |= 1 << f;
                } else {
                    borne[f] = land.value[f] * usedUp(land, f);
                    borneByAll += borne[f];
                }
            }
        }

        void weighAll(Land land, int rain) {
            fields = land.fields;
            share = fields == 0 ? 0 : rain / fields;
            for (int f = 0; f < fields; f++) {
                weigh(land, f);
            }
        }

        /** What is owed to a field with interest, and what is due to it by the share. */
        void weigh(Land land, int f) {
            grown[f] = land.withInterest(land.owed[f]);
            if (law == null) {
                due[f] = share + grown[f] / 2;
                return;
            }
            letters[0] = grown[f];
            letters[1] = land.needs[f];
            letters[2] = land.water[f];
            letters[3] = land.value[f];
            letters[4] = share;
            letters[5] = land.year;
            due[f] = share + held(0, law.worth(letters), MOST_PAID);
        }

        boolean isBefore(int one, int other) {
            return grown[one] > grown[other] || grown[one] == grown[other] && one < other;
        }

        int rank(int f) {
            int rank = 0;
            for (int k = 0; k < fields; k++) {
                if (isBefore(k, f)) {
                    rank++;
                }
            }
            return rank;
        }

        /** All that is due to those before it is gone from the rain, as far as there is any. */
        int fallOn(int f, int rain) {
            int left = rain;
            for (int k = 0; k < fields; k++) {
                if (isBefore(k, f)) {
                    left -= due[k];
                }
            }
            return left < 0 ? 0 : Math.min(left, due[f]);
        }

        boolean drownsAny(Land land, int rain) {
            for (int f = 0; f < fields; f++) {
                if (fallOn(f, rain) >= land.drown) {
                    return true;
                }
            }
            return false;
        }

        private int wet(Land land, int f) {
            return Math.min(MOST_WATER, land.water[f] + fallen[f]);
        }

        private int usedUp(Land land, int f) {
            return Math.min(land.needs[f], wet(land, f));
        }

        /** The year that was looked at goes by. */
        void settle(Land land) {
            for (int f = 0; f < fields; f++) {
                boolean drowns = (drowned >> f & 1) == 1;
                int used = drowns ? 0 : usedUp(land, f);
                land.water[f] = wet(land, f) - used;
                land.coins[f] = Math.min(MOST_COINS, land.coins[f] + borne[f]);
                land.owed[f] = held(0, grown[f] + share - fallen[f], MOST_OWED);
            }
            land.year++;
        }
    }

    /** A law as signs in the order in which they are worked out (both sides ahead of what joins them). */
    private static final class Law {
        /** Six within one another never leave more than 18 numbers waiting. */
        static final int DEEPEST = 32;

        private final int[] code;
        private final int[] stack = new int[DEEPEST];

        Law(int[] code) {
            this.code = code;
        }

        int worth(int[] letters) {
            int top = 0;
            boolean passing = false;
            for (int i = 0; i < code.length && top < DEEPEST; i++) {
                int sign = code[i];
                if (passing) {
                    passing = sign != -';';
                } else if (sign >= 0) {
                    stack[top++] = sign;
                } else if (-sign <= letters.length) {
                    stack[top++] = letters[-sign - 1];
                } else if (top < 1) {
                    return 0;
                } else if (sign == -';') {
                    return stack[top - 1];
                } else if (sign == -'?') {
                    passing = stack[--top] == 0;
                } else if (sign == -'!') {
                    stack[top - 1] = 1 - stack[top - 1];
                } else if (top < 2) {
                    return 0;
                } else {
                    top--;
                    stack[top - 1] = joined(stack[top - 1], -sign, stack[top]);
                }
            }
            return 0;
        }

        private static int joined(int left, int sign, int right) {
            long number;
            switch (sign) {
                case '+': number = (long) left + right; break;
                case '-': number = (long) left - right; break;
                case '*': number = (long) left * right; break;
                case '/': number = right == 0 ? 0 : left / right; break;
                case '=': number = left == right ? 1 : 0; break;
                case '<': number = left < right ? 1 : 0; break;
                case '>': number = left > right ? 1 : 0; break;
                case '&': number = left & right; break;
                default: number = left | right; break;
            }
            return number > MILLION ? MILLION : number < -MILLION ? -MILLION : (int) number;
        }
    }

    /** The steps of a plan: what, the field or the rain, and how much. */
    private static final class Plan {
        static final int YEAR = 0;
        static final int MIST = 1;
        static final int HEDGE = 2;
        static final int MOST_STEPS = 16;

        final int[] kind;
        final int[] first;
        final int[] second;
        final int steps;

        Plan(int[] kind, int[] first, int[] second, int steps) {
            this.kind = Arrays.copyOf(kind, kind.length);
            this.first = Arrays.copyOf(first, first.length);
            this.second = Arrays.copyOf(second, second.length);
            this.steps = steps;
        }
    }

    /** The bytes that came, and how far they are read. */
    private static final class Tape {
        /** No byte of a tape is 0, so it can stand for what is behind the last one. */
        static final int OVER = 0;

        private final byte[] bytes = new byte[MOST_BYTES];
        int length;
        int at;

        static int signsIn(int four) {
            int signs = 0;
            for (int shift = 24; shift >= 0; shift -= 8) {
                if ((four >>> shift & 255) != 0) {
                    signs++;
                }
            }
            return signs;
        }

        void put(int four) {
            for (int shift = 24; shift >= 0; shift -= 8) {
                int sign = four >>> shift & 255;
                if (sign != 0 && length < MOST_BYTES) {
                    bytes[length++] = (byte) sign;
                }
            }
        }

        int signAt(int i) {
            return i >= 0 && i < length ? bytes[i] & 255 : OVER;
        }

        /** The next sign that is no blank; the tape stands at it then. */
        int next() {
            while (at < length && bytes[at] == ' ') {
                at++;
            }
            return at < length ? bytes[at] & 255 : OVER;
        }

        boolean take(int sign) {
            if (next() != sign) {
                return false;
            }
            at++;
            return true;
        }

        static boolean isDigit(int sign) {
            return sign >= '0' && sign <= '9';
        }

        /** Reads a number of some digits at most; NONE, standing at what is wrong, if there is none. */
        int number(int mostDigits) {
            if (!isDigit(next())) {
                return NONE;
            }
            int number = 0;
            for (int k = 0; k < mostDigits && isDigit(signAt(at)); k++) {
                number = 10 * number + signAt(at) - '0';
                at++;
            }
            return isDigit(signAt(at)) ? NONE : number;
        }
    }

    /** Reads a plain. Where a reader answers false, the tape stands at the fault. */
    private static final class PlainReader {
        private static final String RULES = "idp";
        private static final int[] LEAST_RULES = {0, 1, 0};
        private static final int[] MOST_RULES = {9, 99, 30};
        private static final int[] RULES_WITHOUT = {1, 30, 2};
        private static final String ITEMS = "onwvc";
        private static final int[] LEAST_ITEMS = {0, 0, 0, 0, 0};
        private static final int[] MOST_ITEMS = {99, 20, 30, 9, 99};
        private static final int[] ITEMS_WITHOUT = {0, 6, 5, 3, 20};

        private final Tape tape;
        private final int[] told = new int[ITEMS_WITHOUT.length];
        private boolean ruled;
        final Land draft = new Land();

        PlainReader(Tape tape) {
            this.tape = tape;
        }

        boolean read() {
            tape.at = 0;
            ruled = false;
            draft.fields = 0;
            draft.year = 0;
            setWithout(RULES_WITHOUT);
            takeRules();
            for (int k = 0; k <= MOST_BYTES; k++) {
                if (!readClause()) {
                    return false;
                }
                if (tape.next() == Tape.OVER) {
                    return draft.fields >= FEWEST_FIELDS;
                }
                if (!tape.take(';')) {
                    return false;
                }
            }
            return false;
        }

        private boolean readClause() {
            int sign = tape.next();
            if (sign == 's' && !ruled) {
                tape.at++;
                ruled = true;
                setWithout(RULES_WITHOUT);
                boolean isRight = readItems(RULES, LEAST_RULES, MOST_RULES);
                takeRules();
                return isRight;
            }
            if (sign == 'f' && draft.fields < MOST_FIELDS) {
                tape.at++;
                setWithout(ITEMS_WITHOUT);
                boolean isRight = readItems(ITEMS, LEAST_ITEMS, MOST_ITEMS);
                takeField();
                return isRight;
            }
            return false;
        }

        private void setWithout(int[] without) {
            System.arraycopy(without, 0, told, 0, Math.min(without.length, told.length));
        }

        private void takeRules() {
            draft.interest = told[0];
            draft.drown = told[1];
            draft.price = told[2];
        }

        private void takeField() {
            draft.owed[draft.fields] = told[0];
            draft.needs[draft.fields] = told[1];
            draft.water[draft.fields] = told[2];
            draft.value[draft.fields] = told[3];
            draft.coins[draft.fields] = told[4];
            draft.fields++;
        }

        private boolean readItems(String letters, int[] least, int[] most) {
            int seen = 0;
            for (int k = 0; k <= letters.length(); k++) {
                int sign = tape.next();
                int letter = letters.indexOf((char) sign);
                if (letter < 0 || (seen >> letter & 1) == 1) {
                    return sign == ';' || sign == Tape.OVER;
                }
                seen |= 1 << letter;
                tape.at++;
                told[letter] = tape.number(2);
                if (told[letter] == NONE) {
                    return false;
                }
                if (told[letter] < least[letter] || told[letter] > most[letter]) {
                    // a number out of bounds is wrong at its last digit, which is read already
                    tape.at--;
                    return false;
                }
            }
            return false;
        }
    }

    /** Reads a law and writes its signs down in the order in which they are worked out. */
    private static final class LawReader {
        private static final int DEEPEST = 6;
        private static final int DIGITS = 4;
        private static final String LETTERS = "onwvst";

        private final Tape tape;
        private final int[] code = new int[MOST_BYTES];
        private int size;

        LawReader(Tape tape) {
            this.tape = tape;
        }

        Law toLaw() {
            return new Law(Arrays.copyOf(code, size));
        }

        boolean read() {
            tape.at = 0;
            size = 0;
            for (int k = 0; k <= MOST_BYTES; k++) {
                if (!readClause()) {
                    return false;
                }
                if (tape.next() == Tape.OVER) {
                    return true;
                }
                if (!tape.take(';')) {
                    return false;
                }
            }
            return false;
        }

        private boolean readClause() {
            if (!tape.take('y') || !tape.take(':')) {
                return false;
            }
            if (isConditional()) {
                if (!readCondition(0) || !tape.take('?')) {
                    return false;
                }
                write(-'?');
            }
            return readSum(0) && write(-';');
        }

        /** A sum alone has none of these signs; where it is wrong ahead of them, it is wrong both ways. */
        private boolean isConditional() {
            for (int i = tape.at; i < tape.length; i++) {
                int sign = tape.signAt(i);
                if (sign == ';') {
                    return false;
                }
                if (sign == '!' || sign == '(' || isComparing(sign)) {
                    return true;
                }
            }
            return false;
        }

        private static boolean isComparing(int sign) {
            return sign == '=' || sign == '<' || sign == '>';
        }

        private boolean readCondition(int depth) {
            if (!readTruth(depth)) {
                return false;
            }
            for (int k = 0; k < MOST_BYTES && tape.take('|'); k++) {
                if (!readTruth(depth) || !write(-'|')) {
                    return false;
                }
            }
            return true;
        }

        private boolean readTruth(int depth) {
            if (!readUnit(depth)) {
                return false;
            }
            for (int k = 0; k < MOST_BYTES && tape.take('&'); k++) {
                if (!readUnit(depth) || !write(-'&')) {
                    return false;
                }
            }
            return true;
        }

        private boolean readUnit(int depth) {
            int sign = tape.next();
            if (sign == '!') {
                return goesDeeper(depth) && readUnit(depth + 1) && write(-'!');
            }
            if (sign == '(') {
                return goesDeeper(depth) && readCondition(depth + 1) && tape.take(')');
            }
            if (!readSum(depth)) {
                return false;
            }
            int comparing = tape.next();
            if (!isComparing(comparing)) {
                return false;
            }
            tape.at++;
            return readSum(depth) && write(-comparing);
        }

        private boolean readSum(int depth) {
            if (!readTerm(depth)) {
                return false;
            }
            for (int k = 0; k < MOST_BYTES; k++) {
                int sign = tape.next();
                if (sign != '+' && sign != '-') {
                    break;
                }
                tape.at++;
                if (!readTerm(depth) || !write(-sign)) {
                    return false;
                }
            }
            return true;
        }

        private boolean readTerm(int depth) {
            if (!readAtom(depth)) {
                return false;
            }
            for (int k = 0; k < MOST_BYTES; k++) {
                int sign = tape.next();
                if (sign != '*' && sign != '/') {
                    break;
                }
                tape.at++;
                if (!readAtom(depth) || !write(-sign)) {
                    return false;
                }
            }
            return true;
        }

        private boolean readAtom(int depth) {
            int sign = tape.next();
            if (sign == '[') {
                return goesDeeper(depth) && readSum(depth + 1) && tape.take(']');
            }
            int letter = LETTERS.indexOf((char) sign);
            if (letter >= 0) {
                tape.at++;
                return write(-1 - letter);
            }
            int number = tape.number(DIGITS);
            return number != NONE && write(number);
        }

        /** Takes the sign that opens, if so many may stand within one another. */
        private boolean goesDeeper(int depth) {
            if (depth >= DEEPEST) {
                return false;
            }
            tape.at++;
            return true;
        }

        private boolean write(int sign) {
            if (size >= code.length) {
                return false;
            }
            code[size++] = sign;
            return true;
        }
    }

    /** Reads a plan. */
    private static final class PlanReader {
        private static final String KINDS = "ymhk";

        private final Tape tape;
        private final int[] kind = new int[Plan.MOST_STEPS];
        private final int[] first = new int[Plan.MOST_STEPS];
        private final int[] second = new int[Plan.MOST_STEPS];
        private int steps;

        PlanReader(Tape tape) {
            this.tape = tape;
        }

        Plan toPlan() {
            return new Plan(kind, first, second, steps);
        }

        boolean read() {
            tape.at = 0;
            for (int i = 0; i < Plan.MOST_STEPS; i++) {
                if (i > 0 && !tape.take(';') || !readStep(i)) {
                    return false;
                }
                if (tape.next() == Tape.OVER) {
                    steps = i + 1;
                    return true;
                }
            }
            return false;
        }

        private boolean readStep(int i) {
            kind[i] = KINDS.indexOf((char) tape.next());
            if (kind[i] < 0) {
                return false;
            }
            tape.at++;
            first[i] = readDigit();
            second[i] = NONE;
            if (first[i] == NONE || kind[i] > Plan.MIST) {
                return first[i] != NONE;
            }
            int digit = readDigit();
            if (kind[i] == Plan.YEAR) {
                first[i] = 10 * first[i] + digit;
            } else {
                second[i] = digit;
            }
            return digit != NONE;
        }

        private int readDigit() {
            int sign = tape.next();
            if (!Tape.isDigit(sign)) {
                return NONE;
            }
            tape.at++;
            return sign - '0';
        }
    }

    /**
     * The log. Each year of a plain is told once, so the year says where; beside the years that can be
     * asked for it has those that come back when acts are undone.
     */
    private static final class Chronicle {
        static final int LONGEST = 60;
        static final int ROOM = LONGEST + Past.MOST_ACTS;

        private final int[] rain = new int[ROOM];
        private final int[] drowned = new int[ROOM];
        private final int[] borne = new int[ROOM];

        static int lengthIn(int year) {
            return Math.min(LONGEST, year);
        }

        void tell(int year, int fallen, int who, int coins) {
            int at = Math.floorMod(year, ROOM);
            rain[at] = fallen;
            drowned[at] = who;
            borne[at] = coins;
        }

        int entry(int year, int what) {
            int at = Math.floorMod(year, ROOM);
            return what == 0 ? rain[at] : what == 1 ? drowned[at] : borne[at];
        }

        void copyFrom(Chronicle other) {
            System.arraycopy(other.rain, 0, rain, 0, ROOM);
            System.arraycopy(other.drowned, 0, drowned, 0, ROOM);
            System.arraycopy(other.borne, 0, borne, 0, ROOM);
        }
    }

    /** How the land was ahead of each of the latest acts, and how it is in the image. */
    private static final class Past {
        static final int MOST_ACTS = 40;

        private final int[] rows = new int[MOST_ACTS * Land.ROW];
        private int next;
        int kept;
        private final int[] imageRow = new int[Land.ROW];
        private final Chronicle imageLog = new Chronicle();
        boolean hasImage;

        void keep(Land land) {
            land.writeTo(rows, next * Land.ROW);
            next = (next + 1) % MOST_ACTS;
            kept = Math.min(MOST_ACTS, kept + 1);
        }

        boolean restore(Land land) {
            if (kept == 0) {
                return false;
            }
            next = (next + MOST_ACTS - 1) % MOST_ACTS;
            kept--;
            land.readFrom(rows, next * Land.ROW);
            return true;
        }

        void keepImage(Land land, Chronicle chronicle) {
            land.writeTo(imageRow, 0);
            imageLog.copyFrom(chronicle);
            hasImage = true;
        }

        boolean bringImage(Land land, Chronicle chronicle) {
            if (!hasImage) {
                return false;
            }
            land.readFrom(imageRow, 0);
            chronicle.copyFrom(imageLog);
            kept = 0;
            return true;
        }
    }

    /** What fell or did not, and the debts that fit it. */
    private static final class Facts {
        static final int MOST_FACTS = 10;

        final int[] field = new int[MOST_FACTS];
        final int[] rain = new int[MOST_FACTS];
        final int[] amount = new int[MOST_FACTS];
        final boolean[] had = new boolean[MOST_FACTS];
        int known;
        final boolean[] allowed = new boolean[MOST_DEBT + 1];
        final int[] debts = new int[MOST_DEBT + 1];
        final int[] grown = new int[MOST_DEBT + 1];
        final int[] due = new int[MOST_DEBT + 1];

        boolean isFull() {
            return known >= MOST_FACTS;
        }

        void note(int where, int fallen, int v, boolean so) {
            if (isFull()) {
                return;
            }
            field[known] = where;
            rain[known] = fallen;
            amount[known] = v;
            had[known] = so;
            known++;
        }

        void allowAll() {
            for (int debt = 0; debt <= MOST_DEBT; debt++) {
                allowed[debt] = true;
            }
        }

        int listAllowed() {
            int listed = 0;
            for (int debt = 0; debt <= MOST_DEBT; debt++) {
                if (allowed[debt]) {
                    debts[listed++] = debt;
                }
            }
            return listed;
        }
    }
}
