import java.nio.charset.StandardCharsets;
import java.util.Arrays;
import java.util.NoSuchElementException;
import java.util.Random;

/** Drawn runs of at most 512 calls, each answer against the model's. */
public final class ModelTest {
    private static final int RUNS = 250;
    private static final int CALLS = 44;

    private final Checks c = new Checks();
    private final int[] calls = new int[CALLS];
    private final int[] refused = new int[CALLS];
    private final Random random = new Random(20261118);
    private final Texts texts = new Texts(random);
    private RainOwed x;
    private Model m;
    private String told;

    public static void main(String[] args) {
        new ModelTest().runAll();
    }

    private void runAll() {
        Grammar plains = Grammar.ofPlains();
        Grammar laws = Grammar.ofLaws();
        Grammar plans = Grammar.ofPlans();
        for (int run = 0; run < RUNS; run++) {
            x = new RainOwed();
            m = new Model(plains, laws, plans);
            told = "run " + run + " at first: ";
            if (run % 8 != 7) {
                prepare();
            }
            if (run % 10 == 3) {
                growOld();
            }
            for (int k = 0; k < 400; k++) {
                told = "run " + run + " call " + k + ": ";
                call(choose(run));
            }
        }
        for (int k = 0; k < CALLS; k++) {
            c.due("call " + k + " was made", true, calls[k] > 100);
            c.due("call " + k + " was not always refused", true, refused[k] < calls[k] * 9 / 10);
        }
        c.close("ModelTest");
    }

    private void prepare() {
        tell(0, texts.plain());
        for (int k = random.nextInt(3); k > 0; k--) {
            tell(1, texts.law());
            tell(2, texts.plan());
        }
        if (random.nextBoolean()) {
            x.law(0);
            m.law(0);
        }
    }

    /** So that years end, and so that much is owed and had. */
    private void growOld() {
        for (int k = 0; k < 16; k++) {
            long seed = random.nextLong();
            answer(14, "years", m.years(60, seed), x.years(60, seed));
        }
        int rest = 20 + random.nextInt(20);
        answer(14, "years", m.years(rest, rest), x.years(rest, rest));
    }

    private void tell(int sort, String text) {
        x.end(0);
        m.end(0);
        byte[] bytes = text.getBytes(StandardCharsets.ISO_8859_1);
        int[] five = new int[5];
        for (int from = 0; from < bytes.length; from += 20) {
            Arrays.fill(five, 0);
            for (int i = from; i < from + 20 && i < bytes.length; i++) {
                five[(i - from) / 4] |= (bytes[i] & 255) << (24 - 8 * ((i - from) % 4));
            }
            calls[0]++;
            c.due(told + "feed", m.feed(five[0], five[1], five[2], five[3], five[4]),
                x.feed(five[0], five[1], five[2], five[3], five[4]));
        }
        calls[2]++;
        c.due(told + "fault of " + text, m.fault(sort), x.fault(sort));
        calls[3]++;
        c.due(told + "text " + text, m.text(sort), x.text(sort));
    }

    /** Years and plains less often, so that what is asked meets many states. */
    private int choose(int run) {
        int call = random.nextInt(CALLS);
        boolean heavy = call == 28 || call == 27 || call == 23;
        boolean far = call == 14 && run % 3 > 0;
        boolean early = call == 3 && random.nextInt(4) > 0;
        return heavy && random.nextInt(5) > 0 || far || early ? 8 + random.nextInt(6) : call;
    }

    private int some(int low, int high) {
        if (random.nextInt(40) > 0) {
            return low + random.nextInt(high - low + 1);
        }
        int[] outside = {low - 1, low - 2, high + 1, high + 2, Integer.MIN_VALUE, Integer.MAX_VALUE};
        return outside[random.nextInt(outside.length)];
    }

    private int field() {
        return some(0, Math.max(1, x.count(0) - 1));
    }

    private int rain() {
        return random.nextInt(4) > 0 ? some(0, 40) : some(0, 99);
    }

    private void answer(int call, String what, int want, int got) {
        calls[call]++;
        refused[call] += want == RainOwed.NONE || want == RainOwed.HIDDEN ? 1 : 0;
        c.due(told + what, want, got);
    }

    private void answer(int call, String what, boolean want, boolean got) {
        answer(call, what, want ? 1 : RainOwed.NONE, got ? 1 : RainOwed.NONE);
    }

    private void call(int call) {
        if (call < 8) {
            callTexts(call);
        } else if (call < 21) {
            callActs(call);
        } else if (call < 32) {
            callApart(call);
        } else {
            callRest(call);
        }
    }

    private void callTexts(int call) {
        switch (call) {
            case 0: {
                int[] f = {random.nextInt(), random.nextInt(), 0, random.nextInt() & 0xff00ff, 7};
                answer(0, "feed", m.feed(f[0], f[1], f[2], f[3], f[4]), x.feed(f[0], f[1], f[2], f[3], f[4]));
                break;
            }
            case 1: {
                int n = some(0, Math.max(0, x.count(3)));
                answer(1, "end " + n, m.end(n), x.end(n));
                break;
            }
            case 2: {
                int sort = some(0, 2);
                answer(2, "fault " + sort, m.fault(sort) + 10, x.fault(sort) + 10);
                break;
            }
            case 3: {
                int sort = some(0, 2);
                tell(Math.max(0, Math.min(2, sort)), texts.of(Math.max(0, Math.min(2, sort))));
                answer(3, "text " + sort, m.text(sort) + 10, x.text(sort) + 10);
                break;
            }
            case 4: {
                int what = some(0, 2);
                answer(4, "rule " + what, m.rule(what), x.rule(what));
                break;
            }
            case 5:
                callField(field(), some(0, 4));
                break;
            case 6: {
                int law = some(-1, Math.max(-1, x.count(1) - 1));
                answer(6, "law " + law, m.law(law), x.law(law));
                break;
            }
            default: {
                int v = some(0, 9);
                answer(7, "heresy " + v, m.heresy(v), x.heresy(v));
                break;
            }
        }
    }

    private void callField(int field, int what) {
        int want = RainOwed.NONE;
        int got = RainOwed.NONE;
        try {
            want = m.field(field, what);
        } catch (NoSuchElementException e) {
            want = RainOwed.NONE;
        }
        try {
            got = x.field(field, what);
        } catch (NoSuchElementException e) {
            got = RainOwed.NONE;
        }
        answer(5, "field " + field + " " + what, want, got);
    }

    private void callActs(int call) {
        int f = field();
        int g = field();
        int n = random.nextBoolean() ? some(1, 4) : some(1, 20);
        int rain = rain();
        int plan = some(0, Math.max(0, x.count(2) - 1));
        int i = random.nextInt(3) > 0 ? some(0, 3) : some(0, 60);
        int what = some(0, 2);
        long seed = random.nextLong();
        switch (call) {
            case 8: answer(8, "year " + rain, m.year(rain), x.year(rain)); break;
            case 9: answer(9, "sell " + f + " " + g + " " + n, m.sell(f, g, n), x.sell(f, g, n)); break;
            case 10: answer(10, "forgive " + f + " " + n, m.forgive(f, n), x.forgive(f, n)); break;
            case 11: answer(11, "hedge " + f, m.hedge(f), x.hedge(f)); break;
            case 12: answer(12, "can " + f, m.can(f), x.can(f)); break;
            case 13: answer(13, "price", m.price(rain), x.price(rain)); break;
            case 14: answer(14, "years " + rain, m.years(rain, seed), x.years(rain, seed)); break;
            case 15: answer(15, "undo", m.undo(), x.undo()); break;
            case 16: answer(16, "log " + i + " " + what, m.log(i, what), x.log(i, what)); break;
            case 17: answer(17, "step " + plan + " " + i, m.step(plan, i, what), x.step(plan, i, what)); break;
            case 18: answer(18, "run " + plan, m.run(plan, what), x.run(plan, what)); break;
            case 19: answer(19, "perform " + plan, m.perform(plan), x.perform(plan)); break;
            default: answer(20, "falls " + f + " " + rain, m.falls(f, rain), x.falls(f, rain)); break;
        }
    }

    private void callApart(int call) {
        int f = field();
        int g = field();
        int rain = rain();
        int what = some(0, 1);
        int i = random.nextInt(3) == 0 ? -1 : some(0, 5);
        int p = some(0, 5);
        int q = some(0, 5);
        boolean had = random.nextBoolean();
        switch (call) {
            case 21: answer(21, "drowns " + rain, m.drowns(rain), x.drowns(rain)); break;
            case 22: answer(22, "safe", m.safe(), x.safe()); break;
            case 23: answer(23, "least " + rain + " " + what, m.least(rain, what), x.least(rain, what)); break;
            case 24: answer(24, "best " + rain + " " + what, m.best(rain, what), x.best(rain, what)); break;
            case 25: answer(25, "trades " + rain + " " + i, m.trades(rain, i) + 2, x.trades(rain, i) + 2); break;
            case 26: {
                int v = random.nextInt(4) == 0 ? rain() : Math.max(0, x.falls(f, rain) + random.nextInt(5) - 2);
                boolean so = random.nextInt(5) == 0 ? had : x.falls(f, rain) >= v;
                answer(26, "fell " + f + " " + rain, m.fell(f, rain, v, so), x.fell(f, rain, v, so));
                break;
            }
            case 27: answer(27, "debts " + f + " " + i, m.debts(f, i), x.debts(f, i)); break;
            case 28: answer(28, "ask " + f + " " + rain, m.ask(f, rain), x.ask(f, rain)); break;
            case 29: answer(29, "game " + f + " " + g + " " + rain + " " + p + " " + q, m.game(f, g, rain, p, q, what),
                x.game(f, g, rain, p, q, what)); break;
            case 30: answer(30, "rests " + f + " " + g + " " + rain, m.rests(f, g, rain, i) + 2,
                x.rests(f, g, rain, i) + 2); break;
            default: {
                int a = some(0, 60);
                int b = random.nextInt(9) == 0 ? some(0, 99) : a + random.nextInt(39);
                answer(31, "odds " + f + " " + a + " " + b, m.odds(f, a, b), x.odds(f, a, b));
                break;
            }
        }
    }

    private void callRest(int call) {
        int f = field();
        int n = some(0, 30);
        int rain = rain();
        int what = some(0, 10);
        int all = some(0, 6);
        int shared = some(0, 999);
        int buy = some(1, 20);
        switch (call) {
            case 32: answer(32, "turn " + f, m.turn(f), x.turn(f)); break;
            case 33: answer(33, "ahead " + f + " " + n + " " + rain, m.ahead(f, n, rain), x.ahead(f, n, rain)); break;
            case 34: answer(34, "even " + f + " " + rain, m.even(f, rain) + 2, x.even(f, rain) + 2); break;
            case 35: answer(35, "together " + rain, m.together(rain) + 2, x.together(rain) + 2); break;
            case 36: answer(36, "all " + all, m.all(all), x.all(all)); break;
            case 37: answer(37, "shares " + f, m.shares(f, shared), x.shares(f, shared)); break;
            case 38: answer(38, "buyers " + buy, m.buyers(buy), x.buyers(buy)); break;
            case 39: answer(39, "harvest " + rain, m.harvest(rain), x.harvest(rain)); break;
            case 40: answer(40, "forgiven " + f, m.forgiven(f), x.forgiven(f)); break;
            case 41: answer(41, "image", m.image(), x.image()); break;
            case 42: answer(42, "back", m.back(), x.back()); break;
            default: answer(43, "count " + what, m.count(what), x.count(what)); break;
        }
    }
}
