import java.util.ArrayList;
import java.util.List;

/** All that can be seen of an object, in a row; it is used up by being looked at. */
final class Probe {
    private Probe() {
    }

    static List<Integer> of(RainOwed x) {
        List<Integer> seen = new ArrayList<>();
        state(x, seen);
        for (int sort = 0; sort < 3; sort++) {
            seen.add(x.fault(sort));
        }
        for (int f = 0; f < x.count(0); f++) {
            seen.add(x.debts(f, NONE));
            seen.add(x.debts(f, 0));
        }
        for (int plan = 0; plan < 4; plan++) {
            plan(x, plan, seen);
        }
        for (int law = 0; law < x.count(1); law++) {
            x.law(law);
            seen.add(x.falls(0, 47));
            seen.add(x.falls(1, 47));
        }
        // the bytes of the tape: as what they are a text of, if of anything
        seen.add(x.text(2));
        plan(x, x.count(2) - 1, seen);
        acts(x, seen);
        return seen;
    }

    private static final int NONE = RainOwed.NONE;

    private static void state(RainOwed x, List<Integer> seen) {
        for (int what = 0; what <= 10; what++) {
            seen.add(x.count(what));
        }
        for (int what = 0; what < 3; what++) {
            seen.add(x.rule(what));
        }
        for (int f = 0; f < x.count(0); f++) {
            for (int what = 0; what < 5; what++) {
                seen.add(x.field(f, what));
            }
        }
        for (int i = 0; i < Math.min(5, x.count(9)); i++) {
            for (int what = 0; what < 3; what++) {
                seen.add(x.log(i, what));
            }
        }
    }

    private static void plan(RainOwed x, int plan, List<Integer> seen) {
        for (int i = 0; x.step(plan, i, 0) != RainOwed.HIDDEN; i++) {
            for (int what = 0; what < 3; what++) {
                seen.add(x.step(plan, i, what));
            }
        }
    }

    private static void acts(RainOwed x, List<Integer> seen) {
        int left = Math.min(4, x.count(10));
        for (int k = 0; k < left; k++) {
            seen.add(x.undo());
            state(x, seen);
        }
        seen.add(x.back());
        state(x, seen);
    }
}
