import java.util.Random;

/** Draws texts, whole ones and spoilt ones. */
final class Texts {
    private final Random random;
    private boolean blanks;

    Texts(Random random) {
        this.random = random;
    }

    String plain() {
        blanks = random.nextInt(4) == 0;
        int fields = 2 + random.nextInt(5);
        int rulesAt = random.nextInt(fields + 2);
        StringBuilder text = new StringBuilder();
        for (int f = 0; f < fields; f++) {
            if (f == rulesAt) {
                text.append(gap()).append("s").append(items("idp", new int[] {9, 99, 30})).append(";");
            }
            text.append(gap()).append("f").append(items("onwvc", new int[] {99, 20, 30, 9, 99}));
            text.append(f == fields - 1 ? "" : ";");
        }
        if (rulesAt == fields) {
            text.append(";s").append(items("idp", new int[] {9, 99, 30}));
        }
        return cut(text.toString());
    }

    private String items(String letters, int[] most) {
        StringBuilder text = new StringBuilder(gap());
        int first = random.nextInt(letters.length());
        for (int k = 0; k < letters.length(); k++) {
            int i = (first + k) % letters.length();
            if (random.nextInt(3) > 0) {
                int number = random.nextInt(most[i] + 1);
                number = letters.charAt(i) == 'd' ? Math.max(1, random.nextInt(3) > 0 ? number / 3 : number) : number;
                text.append(letters.charAt(i)).append(gap());
                text.append(number < 10 && random.nextInt(5) == 0 ? "0" : "").append(number).append(gap());
            }
        }
        return text.toString();
    }

    String law() {
        String text = "";
        for (int tries = 0; tries < 100; tries++) {
            blanks = random.nextInt(4) == 0;
            text = clauses();
            if (text.length() <= 240) {
                return text;
            }
        }
        return "y:o/2";
    }

    private String clauses() {
        StringBuilder text = new StringBuilder();
        int clauses = 1 + random.nextInt(3);
        for (int k = 0; k < clauses; k++) {
            text.append(k == 0 ? "" : ";").append(gap()).append("y").append(gap()).append(":").append(gap());
            if (random.nextInt(3) > 0) {
                text.append(condition(6)).append("?").append(gap());
            }
            text.append(sum(6));
        }
        return text.toString();
    }

    private String condition(int depth) {
        StringBuilder text = new StringBuilder(unit(depth));
        for (int more = random.nextInt(3); more > 0; more--) {
            text.append(random.nextBoolean() ? "|" : "&").append(gap()).append(unit(depth));
        }
        return text.toString();
    }

    private String unit(int depth) {
        int kind = depth > 0 ? random.nextInt(6) : 5;
        if (kind == 0) {
            return "!" + gap() + unit(depth - 1);
        }
        if (kind == 1) {
            return "(" + gap() + condition(depth - 1) + ")" + gap();
        }
        return sum(depth) + "=<>".charAt(random.nextInt(3)) + gap() + sum(depth);
    }

    private String sum(int depth) {
        StringBuilder text = new StringBuilder(atom(depth));
        for (int more = random.nextInt(3); more > 0; more--) {
            text.append("+-*/".charAt(random.nextInt(4))).append(gap()).append(atom(depth));
        }
        return text.toString();
    }

    private String atom(int depth) {
        int kind = random.nextInt(depth > 0 ? 9 : 8);
        if (kind == 8) {
            return "[" + gap() + sum(depth - 1) + "]" + gap();
        }
        if (kind < 4) {
            return "onwvst".charAt(random.nextInt(6)) + gap();
        }
        int[] most = {3, 10, 100, 10000};
        return random.nextInt(most[kind - 4]) + gap();
    }

    String plan() {
        blanks = random.nextInt(4) == 0;
        StringBuilder text = new StringBuilder();
        int steps = 1 + random.nextInt(random.nextInt(5) == 0 ? 16 : 7);
        for (int k = 0; k < steps; k++) {
            text.append(k == 0 ? "" : ";").append(gap());
            int kind = random.nextInt(4);
            text.append("ymhk".charAt(kind)).append(gap());
            int first = kind == 0 ? random.nextInt(10) : random.nextInt(4);
            text.append(first).append(gap());
            if (kind < 2) {
                text.append(random.nextInt(10)).append(gap());
            }
        }
        return cut(text.toString());
    }

    String of(int sort) {
        return sort == 0 ? plain() : sort == 1 ? law() : plan();
    }

    /** Some signs are gone, others are new. */
    String spoilt(String text, int times) {
        StringBuilder spoilt = new StringBuilder(text);
        for (int k = 0; k < times; k++) {
            int at = random.nextInt(spoilt.length() + 1);
            int kind = random.nextInt(4);
            if (kind == 0 && at < spoilt.length()) {
                spoilt.deleteCharAt(at);
            } else if (kind == 1 && at < spoilt.length()) {
                spoilt.setCharAt(at, sign());
            } else if (kind == 2) {
                spoilt.insert(at, sign());
            } else if (random.nextInt(3) == 0) {
                spoilt.setLength(at);
            }
        }
        return cut(spoilt.toString());
    }

    private char sign() {
        String signs = "sfidponwvct;ymhk0123456789 :?!()[]&|=<>+-*/x";
        return random.nextInt(40) == 0 ? (char) (1 + random.nextInt(255)) : signs.charAt(random.nextInt(signs.length()));
    }

    private String gap() {
        return blanks && random.nextInt(4) == 0 ? " " : "";
    }

    private static String cut(String text) {
        return text.length() > 240 ? text.substring(0, 240) : text;
    }
}
