import java.lang.reflect.InvocationTargetException;
import java.lang.reflect.Method;
import java.util.Arrays;
import java.util.Comparator;
import java.util.NoSuchElementException;
import java.util.TreeMap;

/**
 * What the tests of the document's edges share. Each test is a static method of its own whose name begins with the
 * number of its promise ("promise11.."); a wrong answer is told with that name.
 */
abstract class Edges {
    static final int NONE = RainOwed.NONE;
    static final int HIDDEN = RainOwed.HIDDEN;
    static final int LEAST_INT = Integer.MIN_VALUE;
    static final int MOST_INT = Integer.MAX_VALUE;
    private static final Checks checks = new Checks();
    private static String running = "";

    /** One call of the face; what it answers (a boolean counts 1 or 0). */
    interface Call {
        long on(RainOwed x);
    }

    /** Makes an object of which each making is alike. */
    interface Maker {
        RainOwed make();
    }

    /** Runs each test of a class; it must have some of each of these promises, and of no other. */
    static void run(Class<?> tests, int... promises) {
        Comparator<String> byNumber = Comparator.comparingInt(Edges::promiseOf);
        TreeMap<String, Method> found = new TreeMap<>(byNumber.thenComparing(Comparator.naturalOrder()));
        for (Method method : tests.getDeclaredMethods()) {
            if (method.getName().matches("promise[0-9]+[A-Z].*")) {
                found.put(method.getName(), method);
            }
        }
        running = tests.getName();
        due("has tests of its promises", true,
            Arrays.equals(promises, found.keySet().stream().mapToInt(Edges::promiseOf).distinct().toArray()));
        for (Method method : found.values()) {
            running = method.getName();
            call(method);
        }
        System.out.print(found.size() + " tests, ");
        checks.close(tests.getName());
    }

    private static int promiseOf(String name) {
        return Integer.parseInt(name.replaceAll("^promise([0-9]+).*$", "$1"));
    }

    private static void call(Method method) {
        try {
            method.setAccessible(true);
            method.invoke(null);
        } catch (IllegalAccessException e) {
            throw new IllegalStateException(e);
        } catch (InvocationTargetException e) {
            due("ends without " + e.getCause(), true, false);
        }
    }

    static void due(String what, long want, long got) {
        checks.due(running + ": " + what, want, got);
    }

    static void due(String what, boolean want, boolean got) {
        checks.due(running + ": " + what, want, got);
    }

    /** The call answers what is due for a refused one, and all stays as it would be without it. */
    static void refused(String what, Maker maker, long want, Call call) {
        RainOwed touched = maker.make();
        due(what, want, call.on(touched));
        due(what + " changes nothing", true, Probe.of(touched).equals(Probe.of(maker.make())));
    }

    static void refusedField(RainOwed x, int field, int what) {
        boolean thrown = false;
        try {
            x.field(field, what);
        } catch (NoSuchElementException e) {
            thrown = true;
        }
        due("field(" + field + ", " + what + ") throws", true, thrown);
    }

    /** Of a field: owed, needs, water, value, coins. */
    static void field(RainOwed x, int field, int... want) {
        for (int what = 0; what < want.length; what++) {
            due("field(" + field + ", " + what + ")", want[what], x.field(field, what));
        }
    }

    static RainOwed plain(String text) {
        return Checks.plain(text);
    }

    static RainOwed withLaw(String plain, String law) {
        return Checks.withLaw(plain, law);
    }

    static RainOwed withPlan(String plain, String plan) {
        RainOwed x = Checks.plain(plain);
        Checks.plan(x, plan);
        return x;
    }

    /** So many years, each with the same rain. */
    static RainOwed after(RainOwed x, int years, int rain) {
        for (int k = 0; k < years; k++) {
            x.year(rain);
        }
        return x;
    }

    /** In the year told, by as few calls as can be. */
    static RainOwed inYear(RainOwed x, int year) {
        while (x.count(5) < year) {
            x.years(Math.min(60, year - x.count(5)), 7);
        }
        return x;
    }

    /** An object of which much is there: laws, plans, acts, an image, what fell, a tape. */
    static RainOwed busy() {
        RainOwed x = Checks.plain("si2d12p3;fo10v2;fo5n8w0v1c4;fo3c1");
        Checks.tell(x, "y:o/2").text(1);
        Checks.law(x, "y:w+1;y:9");
        Checks.plan(x, "y09;m01");
        Checks.plan(x, "h0;k2");
        x.heresy(4);
        x.year(20);
        x.sell(0, 1, 1);
        x.image();
        x.year(31);
        x.forgive(0, 2);
        x.price(7);
        x.fell(0, 20, 8, true);
        x.fell(1, 33, 70, false);
        return Checks.tell(x, "k1;h0;m37");
    }
}
