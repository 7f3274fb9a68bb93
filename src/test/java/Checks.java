import java.nio.charset.StandardCharsets;
import java.util.NoSuchElementException;

/** What the tests of the promises share: telling texts, and counting what is not as due. */
final class Checks {
    private int done;
    private int wrong;

    void due(String what, long want, long got) {
        done++;
        if (got != want) {
            wrong++;
            System.out.println(what + " answered " + got + ", due is " + want);
        }
    }

    void due(String what, boolean want, boolean got) {
        due(what, want ? 1 : 0, got ? 1 : 0);
    }

    void refusedField(RainOwed x, int field, int what) {
        boolean thrown = false;
        try {
            x.field(field, what);
        } catch (NoSuchElementException e) {
            thrown = true;
        }
        due("field(" + field + ", " + what + ") throws", true, thrown);
    }

    /** Ends the test: exit code 1 if something was wrong. */
    void close(String name) {
        System.out.println(name + ": " + done + " answers, " + wrong + " not as due");
        if (wrong != 0 || done == 0) {
            System.exit(1);
        }
    }

    /** The tape holds this text alone. */
    static RainOwed tell(RainOwed x, String text) {
        return tell(x, text.getBytes(StandardCharsets.ISO_8859_1));
    }

    static RainOwed tell(RainOwed x, byte[] bytes) {
        x.end(0);
        int[] five = new int[5];
        for (int from = 0; from < bytes.length; from += 20) {
            java.util.Arrays.fill(five, 0);
            for (int i = from; i < from + 20 && i < bytes.length; i++) {
                int k = i - from;
                five[k / 4] |= (bytes[i] & 255) << (24 - 8 * (k % 4));
            }
            x.feed(five[0], five[1], five[2], five[3], five[4]);
        }
        return x;
    }

    static RainOwed plain(String text) {
        RainOwed x = tell(new RainOwed(), text);
        if (x.text(0) < 2) {
            throw new IllegalStateException("no plain: " + text);
        }
        return x;
    }

    static RainOwed withLaw(String plain, String law) {
        RainOwed x = plain(plain);
        law(x, law);
        return x;
    }

    /** A law is told and holds. */
    static int law(RainOwed x, String text) {
        int number = tell(x, text).text(1);
        if (!x.law(number) || number < 0) {
            throw new IllegalStateException("no law: " + text);
        }
        return number;
    }

    static int plan(RainOwed x, String text) {
        int number = tell(x, text).text(2);
        if (number < 0) {
            throw new IllegalStateException("no plan: " + text);
        }
        return number;
    }
}
