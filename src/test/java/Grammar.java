import java.util.ArrayList;
import java.util.HashMap;
import java.util.HashSet;
import java.util.List;
import java.util.Map;
import java.util.Set;

/**
 * Where a text goes wrong, from the rules of the grammar alone (Earley's way: a set of rules under way for each byte;
 * the first byte that leaves none is the fault).
 */
final class Grammar {
    private final Map<String, List<String[]>> rules = new HashMap<>();
    private final String start;

    private Grammar(String start) {
        this.start = start;
        rule("B", "");
        rule("B", "' ' B");
        for (char d = '0'; d <= '9'; d++) {
            rule("D", "'" + d + "'");
        }
    }

    /** Parts with blanks between: 'x' a sign, else the name of a rule. */
    private void rule(String name, String parts) {
        String held = parts.replace("' '", "'_'");
        String[] split = held.isEmpty() ? new String[0] : held.split(" ");
        for (int i = 0; i < split.length; i++) {
            if (split[i].equals("'_'")) {
                split[i] = "' '";
            }
        }
        rules.computeIfAbsent(name, k -> new ArrayList<>()).add(split);
    }

    static Grammar ofLaws() {
        Grammar g = new Grammar("LAW");
        g.rule("LAW", "CLAUSES B");
        g.rule("CLAUSES", "CLAUSE");
        g.rule("CLAUSES", "CLAUSES B ';' CLAUSE");
        g.rule("CLAUSE", "B 'y' B ':' SUM6");
        g.rule("CLAUSE", "B 'y' B ':' COND6 B '?' SUM6");
        for (int k = 0; k <= 6; k++) {
            g.rule("COND" + k, "TRUTH" + k);
            g.rule("COND" + k, "COND" + k + " B '|' TRUTH" + k);
            g.rule("TRUTH" + k, "UNIT" + k);
            g.rule("TRUTH" + k, "TRUTH" + k + " B '&' UNIT" + k);
            for (String sign : new String[] {"=", "<", ">"}) {
                g.rule("UNIT" + k, "SUM" + k + " B '" + sign + "' SUM" + k);
            }
            g.rule("SUM" + k, "TERM" + k);
            g.rule("SUM" + k, "SUM" + k + " B '+' TERM" + k);
            g.rule("SUM" + k, "SUM" + k + " B '-' TERM" + k);
            g.rule("TERM" + k, "ATOM" + k);
            g.rule("TERM" + k, "TERM" + k + " B '*' ATOM" + k);
            g.rule("TERM" + k, "TERM" + k + " B '/' ATOM" + k);
            for (String letter : new String[] {"o", "n", "w", "v", "s", "t"}) {
                g.rule("ATOM" + k, "B '" + letter + "'");
            }
            g.rule("ATOM" + k, "B D");
            g.rule("ATOM" + k, "B D D");
            g.rule("ATOM" + k, "B D D D");
            g.rule("ATOM" + k, "B D D D D");
            if (k > 0) {
                g.rule("UNIT" + k, "B '!' UNIT" + (k - 1));
                g.rule("UNIT" + k, "B '(' COND" + (k - 1) + " B ')'");
                g.rule("ATOM" + k, "B '[' SUM" + (k - 1) + " B ']'");
            }
        }
        return g;
    }

    static Grammar ofPlans() {
        Grammar g = new Grammar("PLAN");
        g.rule("PLAN", "STEPS16 B");
        for (int k = 1; k <= 16; k++) {
            g.rule("STEPS" + k, "STEP");
            if (k > 1) {
                g.rule("STEPS" + k, "STEP B ';' STEPS" + (k - 1));
            }
        }
        g.rule("STEP", "B 'y' B D B D");
        g.rule("STEP", "B 'm' B D B D");
        g.rule("STEP", "B 'h' B D");
        g.rule("STEP", "B 'k' B D");
        return g;
    }

    /** Without the bounds of numbers. A sign that no text has keeps a ; open where only a wrong f or s can follow. */
    static Grammar ofPlains() {
        Grammar g = new Grammar("P00");
        for (int s = 0; s <= 1; s++) {
            for (int f = 0; f <= 6; f++) {
                String name = "P" + s + f;
                if (s == 0) {
                    g.rule(name, "B 's' S0 " + "T1" + f);
                }
                if (f < 6) {
                    g.rule(name, "B 'f' F0 " + "T" + s + (f + 1));
                }
                g.rule(name, "'\u0100'");
                g.rule("T" + s + f, "B ';' P" + s + f);
                if (f >= 2) {
                    g.rule("T" + s + f, "B");
                }
            }
        }
        items(g, "S", "idp");
        items(g, "F", "onwvc");
        return g;
    }

    private static void items(Grammar g, String name, String letters) {
        for (int seen = 0; seen < 1 << letters.length(); seen++) {
            g.rule(name + seen, "");
            for (int k = 0; k < letters.length(); k++) {
                if ((seen >> k & 1) == 0) {
                    String more = " " + name + (seen | 1 << k);
                    g.rule(name + seen, "B '" + letters.charAt(k) + "' B D" + more);
                    g.rule(name + seen, "B '" + letters.charAt(k) + "' B D D" + more);
                }
            }
        }
    }

    /** The fault of a text, or -1. */
    int faultOf(String text) {
        List<Map<String, Item>> sets = new ArrayList<>();
        sets.add(new HashMap<>());
        for (String[] parts : rules.get(start)) {
            add(sets.get(0), new Item(start, parts, 0, 0));
        }
        for (int at = 0; at <= text.length(); at++) {
            Map<String, Item> next = new HashMap<>();
            complete(sets, at, text, next);
            if (at == text.length()) {
                return isWhole(sets.get(at)) ? -1 : at;
            }
            if (next.isEmpty()) {
                return at;
            }
            sets.add(next);
        }
        return -1;
    }

    private boolean isWhole(Map<String, Item> set) {
        for (Item item : set.values()) {
            if (item.name.equals(start) && item.from == 0 && item.dot == item.parts.length) {
                return true;
            }
        }
        return false;
    }

    private void complete(List<Map<String, Item>> sets, int at, String text, Map<String, Item> next) {
        Map<String, Item> here = sets.get(at);
        List<Item> open = new ArrayList<>(here.values());
        Set<String> empty = new HashSet<>();
        for (int i = 0; i < open.size(); i++) {
            Item item = open.get(i);
            if (item.dot == item.parts.length) {
                if (item.from == at) {
                    empty.add(item.name);
                }
                for (Item waiting : new ArrayList<>(sets.get(item.from).values())) {
                    if (waiting.waitsFor(item.name)) {
                        addOpen(here, open, waiting.moved());
                    }
                }
            } else if (item.parts[item.dot].startsWith("'")) {
                if (at < text.length() && text.charAt(at) == item.parts[item.dot].charAt(1)) {
                    add(next, item.moved());
                }
            } else {
                String name = item.parts[item.dot];
                for (String[] parts : rules.get(name)) {
                    addOpen(here, open, new Item(name, parts, 0, at));
                }
                if (empty.contains(name)) {
                    addOpen(here, open, item.moved());
                }
            }
        }
    }

    private static void addOpen(Map<String, Item> here, List<Item> open, Item item) {
        if (add(here, item)) {
            open.add(item);
        }
    }

    private static boolean add(Map<String, Item> set, Item item) {
        return set.putIfAbsent(item.key, item) == null;
    }

    private static final class Item {
        final String name;
        final String[] parts;
        final int dot;
        final int from;
        final String key;

        Item(String name, String[] parts, int dot, int from) {
            this.name = name;
            this.parts = parts;
            this.dot = dot;
            this.from = from;
            this.key = name + "/" + String.join(" ", parts) + "/" + dot + "/" + from;
        }

        boolean waitsFor(String part) {
            return dot < parts.length && parts[dot].equals(part);
        }

        Item moved() {
            return new Item(name, parts, dot + 1, from);
        }
    }

    /** The fault of a plain: the rules', or a number out of bounds ahead of it, at its last digit. */
    static int faultOfPlain(Grammar plains, String text) {
        int fault = plains.faultOf(text);
        int limit = fault < 0 ? text.length() : fault;
        char letter = ' ';
        for (int i = 0; i < limit; i++) {
            char sign = text.charAt(i);
            if (sign < '0' || sign > '9') {
                letter = sign == ' ' ? letter : sign;
                continue;
            }
            int last = i;
            while (last + 1 < text.length() && text.charAt(last + 1) >= '0' && text.charAt(last + 1) <= '9') {
                last++;
            }
            if (last - i < 2 && !isWithin(letter, Integer.parseInt(text.substring(i, last + 1)))) {
                return last;
            }
            i = last;
        }
        return fault;
    }

    private static boolean isWithin(char letter, int number) {
        switch (letter) {
            case 'i':
            case 'v': return number <= 9;
            case 'd': return number >= 1;
            case 'p':
            case 'w': return number <= 30;
            case 'n': return number <= 20;
            default: return true;
        }
    }
}
