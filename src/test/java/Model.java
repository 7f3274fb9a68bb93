import java.util.ArrayDeque;
import java.util.ArrayList;
import java.util.Deque;
import java.util.List;
import java.util.NoSuchElementException;

/** The document told again, slowly: each year in turn, each question by trying all, each act as a whole copy. */
final class Model {
    private static final int NONE = -1;
    private static final int HIDDEN = -1000000;

    private static final class Field {
        int owed;
        int needs = 6;
        int water = 5;
        int value = 3;
        int coins = 20;

        Field copy() {
            Field f = new Field();
            f.owed = owed;
            f.needs = needs;
            f.water = water;
            f.value = value;
            f.coins = coins;
            return f;
        }
    }

    private static final class State {
        final List<Field> fields = new ArrayList<>();
        int interest = 1;
        int drown = 30;
        int price = 2;
        int year;
        List<int[]> log = new ArrayList<>();
        int[] fallen;
        int[] borne;
        int drowned;
        int sum;

        State copy() {
            State s = new State();
            for (Field f : fields) {
                s.fields.add(f.copy());
            }
            s.interest = interest;
            s.drown = drown;
            s.price = price;
            s.year = year;
            s.log = new ArrayList<>(log);
            return s;
        }
    }

    private final Grammar plains;
    private final Grammar lawTexts;
    private final Grammar planTexts;
    private String tape = "";
    private State now;
    private State picture;
    private final List<String> laws = new ArrayList<>();
    private final List<String> plans = new ArrayList<>();
    private int holds = NONE;
    private int heresy;
    private final Deque<State> acts = new ArrayDeque<>();
    private final List<int[]> facts = new ArrayList<>();

    Model(Grammar plains, Grammar laws, Grammar plans) {
        this.plains = plains;
        this.lawTexts = laws;
        this.planTexts = plans;
    }

    int feed(int a, int b, int c, int d, int e) {
        StringBuilder more = new StringBuilder(tape);
        for (int four : new int[] {a, b, c, d, e}) {
            for (int k = 3; k >= 0; k--) {
                char sign = (char) (four >>> 8 * k & 255);
                if (sign != 0) {
                    more.append(sign);
                }
            }
        }
        if (more.length() > 240) {
            return NONE;
        }
        tape = more.toString();
        return tape.length();
    }

    boolean end(int n) {
        if (n < 0 || n > tape.length()) {
            return false;
        }
        tape = tape.substring(0, n);
        return true;
    }

    int fault(int sort) {
        switch (sort) {
            case 0: return Grammar.faultOfPlain(plains, tape);
            case 1: return lawTexts.faultOf(tape);
            case 2: return planTexts.faultOf(tape);
            default: return -2;
        }
    }

    int text(int sort) {
        if (fault(sort) != NONE) {
            return NONE;
        }
        List<String> texts = sort == 1 ? laws : plans;
        String text = tape.replace(" ", "");
        if (sort > 0) {
            if (texts.size() == 4) {
                return NONE;
            }
            texts.add(text);
            tape = "";
            return texts.size() - 1;
        }
        tape = "";
        now = new State();
        picture = null;
        acts.clear();
        facts.clear();
        for (String clause : text.split(";")) {
            takeClause(clause);
        }
        return now.fields.size();
    }

    private void takeClause(String clause) {
        Field f = new Field();
        for (int i = 1; i < clause.length(); ) {
            char letter = clause.charAt(i++);
            int number = 0;
            while (i < clause.length() && Character.isDigit(clause.charAt(i))) {
                number = 10 * number + clause.charAt(i++) - '0';
            }
            switch (letter) {
                case 'i': now.interest = number; break;
                case 'd': now.drown = number; break;
                case 'p': now.price = number; break;
                case 'o': f.owed = number; break;
                case 'n': f.needs = number; break;
                case 'w': f.water = number; break;
                case 'v': f.value = number; break;
                default: f.coins = number; break;
            }
        }
        if (clause.charAt(0) == 'f') {
            now.fields.add(f);
        }
    }

    int rule(int what) {
        return now == null ? NONE : what == 0 ? now.interest : what == 1 ? now.drown : what == 2 ? now.price : NONE;
    }

    int field(int field, int what) {
        if (!has(field) || what < 0 || what > 4) {
            throw new NoSuchElementException();
        }
        Field f = now.fields.get(field);
        return new int[] {f.owed, f.needs, f.water, f.value, f.coins}[what];
    }

    private boolean has(int field) {
        return now != null && field >= 0 && field < now.fields.size();
    }

    private boolean isRain(int rain) {
        return now != null && rain >= 0 && rain <= 99;
    }

    boolean law(int law) {
        if (law < -1 || law >= laws.size()) {
            return false;
        }
        holds = law;
        return true;
    }

    boolean heresy(int v) {
        if (v < 0 || v > 9 || v == heresy) {
            return false;
        }
        heresy = v;
        return true;
    }

    /** The year itself, step by step as the document tells it. */
    private void pass(State s, int rain) {
        int n = s.fields.size();
        for (Field f : s.fields) {
            f.owed = Math.min(999, f.owed + f.owed * s.interest / 10);
        }
        int share = rain / n;
        List<Integer> turn = turnOf(s);
        int left = rain;
        s.fallen = new int[n];
        for (int i : turn) {
            Field f = s.fields.get(i);
            long paid = f.owed / 2;
            if (holds != NONE) {
                long[] letters = {f.owed, f.needs, f.water, f.value, share, s.year};
                paid = Math.max(0, Math.min(99, new Worth(laws.get(holds), letters).of()));
            }
            s.fallen[i] = (int) Math.min(left, share + paid);
            left -= s.fallen[i];
        }
        s.borne = new int[n];
        s.drowned = 0;
        s.sum = 0;
        for (int i = 0; i < n; i++) {
            Field f = s.fields.get(i);
            if (s.fallen[i] >= share) {
                f.owed = Math.max(0, f.owed - (s.fallen[i] - share));
            } else {
                f.owed = Math.min(999, f.owed + (share - s.fallen[i]));
            }
            f.water = Math.min(30, f.water + s.fallen[i]);
            if (s.fallen[i] >= s.drown) {
                s.drowned |= 1 << i;
            } else {
                int used = Math.min(f.needs, f.water);
                f.water -= used;
                s.borne[i] = f.value * used;
                s.sum += s.borne[i];
                f.coins = Math.min(999, f.coins + s.borne[i]);
            }
        }
        s.year++;
        s.log.add(0, new int[] {rain, s.drowned, s.sum});
        if (s.log.size() > 60) {
            s.log.remove(60);
        }
    }

    private static List<Integer> turnOf(State s) {
        List<Integer> turn = new ArrayList<>();
        for (int i = 0; i < s.fields.size(); i++) {
            turn.add(i);
        }
        turn.sort((a, b) -> s.fields.get(b).owed - s.fields.get(a).owed);
        return turn;
    }

    private void act() {
        acts.push(now.copy());
        if (acts.size() > 40) {
            acts.removeLast();
        }
    }

    int year(int rain) {
        if (!isRain(rain) || now.year >= 999) {
            return NONE;
        }
        act();
        pass(now, rain);
        return now.sum;
    }

    private static boolean sale(State s, int from, int to, int n) {
        Field a = s.fields.get(from);
        Field b = s.fields.get(to);
        if (a.owed < n || b.coins < n * s.price || a.coins + n * s.price > 999) {
            return false;
        }
        a.owed -= n;
        b.owed = Math.min(999, b.owed + n);
        a.coins += n * s.price;
        b.coins -= n * s.price;
        return true;
    }

    /** An act on a copy that takes the place of what is now, if it can be. */
    private boolean becomes(State s, boolean can) {
        if (!can) {
            return false;
        }
        act();
        now = s;
        return true;
    }

    int sell(int field, int other, int n) {
        if (!has(field) || !has(other) || field == other || n < 1 || n > 20) {
            return NONE;
        }
        State s = now.copy();
        return becomes(s, sale(s, field, other, n)) ? now.fields.get(field).coins : NONE;
    }

    private static boolean mist(State s, int field, int n) {
        if (field >= s.fields.size() || n < 1 || n > 20 || s.fields.get(field).owed < n) {
            return false;
        }
        s.fields.get(field).owed -= n;
        for (Field f : s.fields) {
            f.water = Math.min(30, f.water + 1);
        }
        return true;
    }

    private static boolean move(State s, int field) {
        if (field >= s.fields.size() - 1) {
            return false;
        }
        Field a = s.fields.get(field);
        Field b = s.fields.get(field + 1);
        if (a.owed == b.owed && a.needs == b.needs) {
            return false;
        }
        int owed = a.owed;
        int needs = a.needs;
        a.owed = b.owed;
        a.needs = b.needs;
        b.owed = owed;
        b.needs = needs;
        return true;
    }

    private static boolean fill(State s, int field) {
        if (field >= s.fields.size() || s.fields.get(field).coins < 3 || s.fields.get(field).water == 30) {
            return false;
        }
        s.fields.get(field).coins -= 3;
        s.fields.get(field).water = Math.min(30, s.fields.get(field).water + 2);
        return true;
    }

    int forgive(int field, int n) {
        if (!has(field)) {
            return NONE;
        }
        State s = now.copy();
        return becomes(s, mist(s, field, n)) ? now.fields.get(field).owed : NONE;
    }

    int hedge(int field) {
        if (!has(field)) {
            return NONE;
        }
        State s = now.copy();
        return becomes(s, move(s, field)) ? now.fields.get(field).owed : NONE;
    }

    int can(int field) {
        if (!has(field)) {
            return NONE;
        }
        State s = now.copy();
        return becomes(s, fill(s, field)) ? now.fields.get(field).water : NONE;
    }

    int price(int v) {
        if (now == null || v < 0 || v > 30 || v == now.price) {
            return NONE;
        }
        act();
        int was = now.price;
        now.price = v;
        return was;
    }

    int years(int n, long seed) {
        if (now == null || n < 1 || n > 60 || now.year + n > 999) {
            return NONE;
        }
        long[] x = {seed};
        for (int k = 0; k < n; k++) {
            act();
            if (draw(x, 10) < heresy) {
                Field f = now.fields.get(draw(x, now.fields.size()));
                f.owed -= f.owed / 2;
            }
            pass(now, draw(x, 100));
        }
        return now.year;
    }

    private static int draw(long[] x, int j) {
        x[0] = x[0] * 6364136223846793005L + 1442695040888963407L;
        return (int) Long.remainderUnsigned(x[0] >>> 33, j);
    }

    int undo() {
        if (acts.isEmpty()) {
            return NONE;
        }
        now = acts.pop();
        return acts.size();
    }

    int log(int i, int what) {
        return now == null || i < 0 || i >= now.log.size() || what < 0 || what > 2 ? NONE : now.log.get(i)[what];
    }

    int step(int plan, int i, int what) {
        if (plan < 0 || plan >= plans.size() || what < 0 || what > 2) {
            return HIDDEN;
        }
        String[] steps = plans.get(plan).split(";");
        if (i < 0 || i >= steps.length) {
            return HIDDEN;
        }
        String step = steps[i];
        boolean two = step.length() == 3;
        int first = step.charAt(1) - '0';
        switch (what) {
            case 0: return "ymhk".indexOf(step.charAt(0));
            case 1: return step.charAt(0) == 'y' ? Integer.parseInt(step.substring(1)) : first;
            default: return two && step.charAt(0) == 'm' ? step.charAt(2) - '0' : NONE;
        }
    }

    private boolean makeStep(State s, String step) {
        int first = step.charAt(1) - '0';
        switch (step.charAt(0)) {
            case 'y':
                if (s.year >= 999) {
                    return false;
                }
                pass(s, Integer.parseInt(step.substring(1)));
                return true;
            case 'm': return mist(s, first, step.charAt(2) - '0');
            case 'h': return move(s, first);
            default: return fill(s, first);
        }
    }

    int run(int plan, int what) {
        if (plan < 0 || plan >= plans.size() || now == null || what < 0 || what > 1) {
            return HIDDEN;
        }
        State s = now.copy();
        int done = 0;
        int coins = 0;
        for (String step : plans.get(plan).split(";")) {
            if (!makeStep(s, step)) {
                return what == 0 ? done : coins;
            }
            coins += step.charAt(0) == 'y' ? s.sum : 0;
            done++;
        }
        return what == 0 ? NONE : coins;
    }

    int perform(int plan) {
        if (plan < 0 || plan >= plans.size() || now == null) {
            return NONE;
        }
        int done = 0;
        for (String step : plans.get(plan).split(";")) {
            State s = now.copy();
            if (!becomes(s, makeStep(s, step))) {
                return done;
            }
            done++;
        }
        return done;
    }

    private State seen(State from, int rain) {
        State s = from.copy();
        pass(s, rain);
        return s;
    }

    int falls(int field, int rain) {
        return has(field) && isRain(rain) ? seen(now, rain).fallen[field] : NONE;
    }

    int drowns(int rain) {
        return isRain(rain) ? seen(now, rain).drowned : NONE;
    }

    int safe() {
        int most = NONE;
        for (int rain = 0; rain < 100 && now != null; rain++) {
            most = seen(now, rain).drowned == 0 ? rain : most;
        }
        return most;
    }

    int least(int rain, int what) {
        if (!isRain(rain) || what < 0 || what > 1) {
            return NONE;
        }
        for (int less = 0; less <= 999; less++) {
            for (int f = 0; f < now.fields.size(); f++) {
                State s = now.copy();
                s.fields.get(f).owed -= less;
                if (s.fields.get(f).owed >= 0 && seen(s, rain).drowned == 0) {
                    return what == 0 ? f : less;
                }
            }
        }
        return NONE;
    }

    int best(int rain, int what) {
        if (!isRain(rain) || what < 0 || what > 1) {
            return NONE;
        }
        int best = NONE;
        int most = NONE;
        for (int code = 999; code >= 1; code--) {
            int from = code / 100;
            int to = code / 10 % 10;
            if (has(from) && has(to) && from != to && code % 10 > 0) {
                State s = now.copy();
                if (sale(s, from, to, code % 10)) {
                    int sum = seen(s, rain).sum;
                    if (sum >= most) {
                        most = sum;
                        best = code;
                    }
                }
            }
        }
        return what == 0 ? best : most;
    }

    private static int ith(List<Integer> list, int i) {
        return i == NONE ? list.size() : i >= 0 && i < list.size() ? list.get(i) : NONE;
    }

    int trades(int rain, int i) {
        if (!isRain(rain)) {
            return NONE;
        }
        List<Integer> found = new ArrayList<>();
        State without = seen(now, rain);
        for (int code = 0; code < 100; code++) {
            int from = code / 10;
            int to = code % 10;
            if (has(from) && has(to) && from != to) {
                State s = now.copy();
                if (sale(s, from, to, 1)) {
                    pass(s, rain);
                    if (s.fields.get(from).coins > without.fields.get(from).coins
                        && s.fields.get(to).coins > without.fields.get(to).coins) {
                        found.add(code);
                    }
                }
            }
        }
        return ith(found, i);
    }

    int fell(int field, int rain, int v, boolean had) {
        if (!has(field) || !isRain(rain) || v < 0 || v > 99 || facts.size() == 10) {
            return NONE;
        }
        facts.add(new int[] {field, rain, v, had ? 1 : 0});
        return facts.size();
    }

    private State withDebt(int field, int debt) {
        State s = now.copy();
        s.fields.get(field).owed = debt;
        return s;
    }

    private List<Integer> fitting(int field) {
        List<Integer> fitting = new ArrayList<>();
        for (int debt = 0; debt < 100; debt++) {
            boolean fits = true;
            for (int[] fact : facts) {
                if (fact[0] == field) {
                    boolean had = seen(withDebt(field, debt), fact[1]).fallen[field] >= fact[2];
                    fits &= had == (fact[3] == 1);
                }
            }
            if (fits) {
                fitting.add(debt);
            }
        }
        return fitting;
    }

    int debts(int field, int i) {
        return has(field) ? ith(fitting(field), i) : NONE;
    }

    int ask(int field, int v) {
        if (!has(field) || v < 0 || v > 99) {
            return NONE;
        }
        List<Integer> fitting = fitting(field);
        int best = NONE;
        int apart = Integer.MAX_VALUE;
        for (int rain = 0; rain < 100 && !fitting.isEmpty(); rain++) {
            int yes = 0;
            int no = 0;
            for (int debt : fitting) {
                if (seen(withDebt(field, debt), rain).fallen[field] >= v) {
                    yes++;
                } else {
                    no++;
                }
            }
            if (Math.abs(yes - no) < apart) {
                apart = Math.abs(yes - no);
                best = rain;
            }
        }
        return best;
    }

    int game(int one, int other, int rain, int x, int y, int what) {
        if (!has(one) || !has(other) || one == other || !isRain(rain) || x < 0 || x > 5 || y < 0 || y > 5
            || what < 0 || what > 1) {
            return HIDDEN;
        }
        State s = now.copy();
        s.fields.get(one).owed = Math.max(0, s.fields.get(one).owed - x);
        s.fields.get(other).owed = Math.max(0, s.fields.get(other).owed - y);
        pass(s, rain);
        return what == 0 ? s.borne[one] - x : s.borne[other] - y;
    }

    int rests(int one, int other, int rain, int i) {
        if (!has(one) || !has(other) || one == other || !isRain(rain)) {
            return NONE;
        }
        List<Integer> found = new ArrayList<>();
        for (int x = 0; x < 6; x++) {
            for (int y = 0; y < 6; y++) {
                boolean rest = true;
                for (int z = 0; z < 6; z++) {
                    rest &= game(one, other, rain, z, y, 0) <= game(one, other, rain, x, y, 0);
                    rest &= game(one, other, rain, x, z, 1) <= game(one, other, rain, x, y, 1);
                }
                if (rest) {
                    found.add(10 * x + y);
                }
            }
        }
        return ith(found, i);
    }

    int odds(int field, int a, int b) {
        if (!has(field) || a < 0 || a > b || b > 99) {
            return NONE;
        }
        long times = 0;
        for (int rain = a; rain <= b; rain++) {
            times += seen(now, rain).drowned >> field & 1;
        }
        return (int) (times * 1000000L / (b - a + 1));
    }

    private static State grown(State from) {
        State s = from.copy();
        for (Field f : s.fields) {
            f.owed = Math.min(999, f.owed + f.owed * s.interest / 10);
        }
        return s;
    }

    int turn(int i) {
        return has(i) ? turnOf(grown(now)).get(i) : NONE;
    }

    int ahead(int field, int n, int rain) {
        if (!has(field) || n < 0 || n > 30 || !isRain(rain)) {
            return NONE;
        }
        State s = now.copy();
        for (int k = 0; k < n; k++) {
            pass(s, rain);
        }
        return s.fields.get(field).owed;
    }

    int even(int field, int rain) {
        if (!has(field) || !isRain(rain)) {
            return NONE;
        }
        State s = now.copy();
        for (int k = 0; k <= 60; k++) {
            if (s.fields.get(field).owed == 0) {
                return k;
            }
            pass(s, rain);
        }
        return NONE;
    }

    int together(int rain) {
        if (!isRain(rain)) {
            return NONE;
        }
        State s = now.copy();
        for (int k = 1; k <= 60; k++) {
            pass(s, rain);
            if (Integer.bitCount(s.drowned) >= 2) {
                return k;
            }
        }
        return NONE;
    }

    int all(int what) {
        if (now == null || what < 0 || what > 6) {
            return NONE;
        }
        List<Field> fs = now.fields;
        int poorest = 0;
        int driest = 0;
        int creditor = 0;
        int hungriest = 0;
        int owed = 0;
        int thirst = 0;
        for (int i = 0; i < fs.size(); i++) {
            Field f = fs.get(i);
            poorest = f.coins < fs.get(poorest).coins ? i : poorest;
            driest = f.water < fs.get(driest).water ? i : driest;
            creditor = f.owed > fs.get(creditor).owed ? i : creditor;
            hungriest = f.needs > fs.get(hungriest).needs ? i : hungriest;
            owed += f.owed;
            thirst += f.needs > f.water ? 1 << i : 0;
        }
        int rain = 0;
        while (rain / fs.size() < fs.get(hungriest).needs) {
            rain++;
        }
        return new int[] {poorest, driest, creditor, hungriest, owed, rain, thirst}[what];
    }

    int shares(int field, int c) {
        if (!has(field) || c < 0 || c > 999) {
            return NONE;
        }
        int all = all(4);
        return all == 0 ? 0 : c * now.fields.get(field).owed / all;
    }

    int buyers(int n) {
        if (now == null || n < 1 || n > 20) {
            return NONE;
        }
        int bits = 0;
        for (int i = 0; i < now.fields.size(); i++) {
            bits += now.fields.get(i).coins >= n * now.price ? 1 << i : 0;
        }
        return bits;
    }

    int harvest(int rain) {
        return isRain(rain) ? seen(now, rain).sum : NONE;
    }

    int forgiven(int field) {
        if (!has(field)) {
            return NONE;
        }
        for (int less = 0; less <= now.fields.get(field).owed; less++) {
            State s = now.copy();
            s.fields.get(field).owed -= less;
            if (turnOf(grown(s)).get(0) != field) {
                return less;
            }
        }
        return NONE;
    }

    int image() {
        if (now == null) {
            return NONE;
        }
        picture = now.copy();
        return now.year;
    }

    int back() {
        if (picture == null) {
            return NONE;
        }
        now = picture.copy();
        acts.clear();
        return now.year;
    }

    int count(int what) {
        int coins = 0;
        for (int i = 0; now != null && i < now.fields.size(); i++) {
            coins += now.fields.get(i).coins;
        }
        int[] counts = {now == null ? 0 : now.fields.size(), laws.size(), plans.size(), tape.length(), holds,
            now == null ? 0 : now.year, coins, heresy, facts.size(), now == null ? 0 : now.log.size(), acts.size()};
        return what < 0 || what >= counts.length ? HIDDEN : counts[what];
    }

    /** Works a law out from its text, which has no blanks and no fault. */
    private static final class Worth {
        private final String text;
        private final long[] letters;
        private int at;

        Worth(String text, long[] letters) {
            this.text = text + "$";
            this.letters = letters;
        }

        long of() {
            for (String clause : text.substring(0, text.length() - 1).split(";")) {
                Worth part = new Worth(clause.substring(2), letters);
                int mark = clause.indexOf('?');
                if (mark < 0) {
                    return part.sum();
                }
                if (part.condition()) {
                    part.at++;
                    return part.sum();
                }
            }
            return 0;
        }

        private boolean condition() {
            boolean holds = truth();
            while (text.charAt(at) == '|') {
                at++;
                boolean more = truth();
                holds = holds || more;
            }
            return holds;
        }

        private boolean truth() {
            boolean holds = unit();
            while (text.charAt(at) == '&') {
                at++;
                boolean more = unit();
                holds = holds && more;
            }
            return holds;
        }

        private boolean unit() {
            if (text.charAt(at) == '!') {
                at++;
                return !unit();
            }
            if (text.charAt(at) == '(') {
                at++;
                boolean holds = condition();
                at++;
                return holds;
            }
            long left = sum();
            char sign = text.charAt(at++);
            long right = sum();
            return sign == '=' ? left == right : sign == '<' ? left < right : left > right;
        }

        private long sum() {
            long left = term();
            while (text.charAt(at) == '+' || text.charAt(at) == '-') {
                left = text.charAt(at++) == '+' ? within(left + term()) : within(left - term());
            }
            return left;
        }

        private long term() {
            long left = atom();
            while (text.charAt(at) == '*' || text.charAt(at) == '/') {
                boolean times = text.charAt(at++) == '*';
                long right = atom();
                left = within(times ? left * right : right == 0 ? 0 : left / right);
            }
            return left;
        }

        private long atom() {
            char sign = text.charAt(at);
            if (sign == '[') {
                at++;
                long number = sum();
                at++;
                return number;
            }
            if (Character.isLetter(sign)) {
                at++;
                return letters["onwvst".indexOf(sign)];
            }
            long number = 0;
            while (Character.isDigit(text.charAt(at))) {
                number = 10 * number + text.charAt(at++) - '0';
            }
            return number;
        }

        private static long within(long number) {
            return Math.max(-1000000, Math.min(1000000, number));
        }
    }
}
