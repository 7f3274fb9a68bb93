/** Edges of promises 11 to 15, 17 and 18: acts by hand, acts undone, the log. */
public final class ActEdgesTest extends Edges {
    public static void main(String[] args) {
        run(ActEdgesTest.class, 11, 12, 13, 14, 15, 17, 18);
    }

    private static final int[] NO_FIELDS = {-1, 3, 6, LEAST_INT, MOST_INT};

    static void promise11From1To20() {
        due("1", 21, plain("sp1;fo30;fc99").sell(0, 1, 1));
        due("20", 40, plain("sp1;fo30;fc99").sell(0, 1, 20));
        for (int n : new int[] {0, -1, 21, LEAST_INT, MOST_INT}) {
            refused("of " + n, () -> plain("sp1;fo30;fc99"), NONE, x -> x.sell(0, 1, n));
            refused("of " + n + " for nothing", () -> plain("sp0;fo30;fc99"), NONE, x -> x.sell(0, 1, n));
        }
    }

    static void promise11SoMuchMustBeOwed() {
        due("all", 27, plain("sp1;fo7;f").sell(0, 1, 7));
        refused("one more", () -> plain("sp1;fo7;f"), NONE, x -> x.sell(0, 1, 8));
        refused("of nothing", () -> plain("sp1;fo0;fo9"), NONE, x -> x.sell(0, 1, 1));
    }

    static void promise11TheBuyerMustHaveTheCoins() {
        RainOwed x = plain("sp3;fo9c0;fc6");
        due("all", 6, x.sell(0, 1, 2));
        field(x, 0, 7, 6, 5, 3, 6);
        field(x, 1, 2, 6, 5, 3, 0);
        refused("one more", () -> plain("sp3;fo9c0;fc5"), NONE, y -> y.sell(0, 1, 2));
        refused("none", () -> plain("sp1;fo9;fc0"), NONE, y -> y.sell(0, 1, 1));
        due("for nothing", 20, plain("sp0;fo9;fc0").sell(0, 1, 9));
    }

    static void promise11MostCoinsForOneSale() {
        RainOwed x = after(withLaw("si0d99p30;fo30c0;fn20w30v9c99", "y:0"), 5, 40);
        int had = x.field(0, 4);
        due("20 times 30", had + 600, x.sell(0, 1, 20));
        due("of the buyer's 999", 399, x.field(1, 4));
    }

    private static RainOwed rich(int coins) {
        return after(withLaw("si0d99p1;fo50n20w30v9c" + (coins - 900) + ";fc99n0", "y:0"), 5, 40);
    }

    static void promise11TheSellerHas999AtMost() {
        due("just 999", 999, rich(998).sell(0, 1, 1));
        refused("1000", () -> rich(999), NONE, x -> x.sell(0, 1, 1));
        refused("1000", () -> rich(998), NONE, x -> x.sell(0, 1, 2));
        due("just 999", 999, rich(979).sell(0, 1, 20));
        refused("1000", () -> rich(980), NONE, x -> x.sell(0, 1, 20));
        RainOwed x = rich(999);
        x.price(0);
        due("for nothing", 999, x.sell(0, 1, 1));
    }

    private static RainOwed owed(int most) {
        RainOwed x = after(withLaw("si9p0;fo10;fo99", "y:0"), 5, 0);
        for (int left = 999 - most; left > 0; left -= Math.min(20, left)) {
            x.forgive(1, Math.min(20, left));
        }
        return x;
    }

    static void promise11TheBuyerIsOwed999AtMost() {
        for (int most : new int[] {979, 980, 990, 998, 999}) {
            RainOwed x = owed(most);
            field(x, 1, most);
            int ofSeller = x.field(0, 0);
            due("it can be", x.field(0, 4), x.sell(0, 1, 20));
            field(x, 0, ofSeller - 20);
            field(x, 1, Math.min(999, most + 20));
        }
    }

    static void promise11NoSuchFields() {
        for (int f : NO_FIELDS) {
            refused("seller " + f, Edges::busy, NONE, x -> x.sell(f, 1, 1));
            refused("buyer " + f, Edges::busy, NONE, x -> x.sell(0, f, 1));
        }
    }

    static void promise11Alike() {
        for (int f = 0; f < 3; f++) {
            int alike = f;
            refused("field " + f, Edges::busy, NONE, x -> x.sell(alike, alike, 1));
        }
    }

    static void promise12From1To20() {
        due("1", 29, plain("fo30;f").forgive(0, 1));
        due("20", 10, plain("fo30;f").forgive(0, 20));
        for (int n : new int[] {0, -1, 21, LEAST_INT, MOST_INT}) {
            refused("of " + n, () -> plain("fo30;f"), NONE, x -> x.forgive(0, n));
        }
    }

    static void promise12NoMoreThanIsOwed() {
        due("all", 0, plain("fo7;f").forgive(0, 7));
        refused("one more", () -> plain("fo7;f"), NONE, x -> x.forgive(0, 8));
        refused("of nothing", () -> plain("f;fo7"), NONE, x -> x.forgive(0, 1));
    }

    static void promise12MistIsOneForEachFieldAnd30AtMost() {
        RainOwed x = plain("fo9w0;fw28;fw29;fw30");
        x.forgive(0, 9);
        int[] water = {1, 29, 30, 30};
        for (int f = 0; f < 4; f++) {
            due("water", water[f], x.field(f, 2));
        }
    }

    static void promise12MistOnAllOfSix() {
        RainOwed x = plain("f;f;f;f;f;fo9");
        due("by the last", 0, x.forgive(5, 9));
        for (int f = 0; f < 6; f++) {
            due("water", 6, x.field(f, 2));
        }
    }

    static void promise12AllFullIsNoHindrance() {
        RainOwed x = plain("fo9w30;fw30");
        due("it can be", 8, x.forgive(0, 1));
        due("an act", 1, x.count(10));
    }

    static void promise12NoSuchField() {
        for (int f : NO_FIELDS) {
            refused("field " + f, Edges::busy, NONE, x -> x.forgive(f, 1));
        }
    }

    static void promise13TheLastOne() {
        refused("of two", () -> plain("fo1;f"), NONE, x -> x.hedge(1));
        refused("of six", () -> plain("f;f;f;f;f;fo1"), NONE, x -> x.hedge(5));
        due("the one ahead of it", 1, plain("f;f;f;f;f;fo1").hedge(4));
        due("the first", 0, plain("fo1;f").hedge(0));
    }

    static void promise13NoSuchField() {
        for (int f : NO_FIELDS) {
            refused("field " + f, Edges::busy, NONE, x -> x.hedge(f));
        }
    }

    static void promise13AlikeBoth() {
        refused("alike both", () -> plain("fo4n5w1v1c1;fo4n5w2v2c2;f"), NONE, x -> x.hedge(0));
        RainOwed owed = plain("fo4n5;fo3n5");
        due("not in what is owed", 3, owed.hedge(0));
        field(owed, 0, 3, 5);
        field(owed, 1, 4, 5);
        RainOwed needs = plain("fo4n5;fo4n6");
        due("not in what they need", 4, needs.hedge(0));
        field(needs, 0, 4, 6);
        field(needs, 1, 4, 5);
    }

    static void promise13OnlyOwedAndNeedsAreChanged() {
        RainOwed x = plain("fo4n5w1v1c1;fo3n6w2v2c2;fo9");
        due("owed then", 3, x.hedge(0));
        field(x, 0, 3, 6, 1, 1, 1);
        field(x, 1, 4, 5, 2, 2, 2);
        field(x, 2, 9);
    }

    static void promise14ThreeCoins() {
        RainOwed x = plain("fc3w5;f");
        due("just enough", 7, x.can(0));
        due("none left", 0, x.field(0, 4));
        refused("two", () -> plain("fc2w5;f"), NONE, y -> y.can(0));
        refused("none", () -> plain("fc0w5;f"), NONE, y -> y.can(0));
    }

    static void promise14Water30AtMost() {
        due("28", 30, plain("fw28;f").can(0));
        due("29", 30, plain("fw29;f").can(0));
        due("27", 29, plain("fw27;f").can(0));
        due("0", 2, plain("fw0;f").can(0));
        refused("30", () -> plain("fw30;f"), NONE, x -> x.can(0));
        RainOwed x = plain("fw29c20;f");
        x.can(0);
        due("three coins all the same", 17, x.field(0, 4));
    }

    static void promise14NoSuchField() {
        for (int f : NO_FIELDS) {
            refused("field " + f, Edges::busy, NONE, x -> x.can(f));
        }
    }

    static void promise15From0To30() {
        RainOwed x = plain("f;f");
        due("30", 2, x.price(30));
        due("0", 30, x.price(0));
        due("1", 0, x.price(1));
        for (int v : new int[] {-1, 31, LEAST_INT, MOST_INT}) {
            refused("price(" + v + ")", Edges::busy, NONE, y -> y.price(v));
        }
    }

    static void promise15ItIsSo() {
        refused("7", Edges::busy, NONE, x -> x.price(7));
        refused("as told", () -> plain("sp0;f;f"), NONE, x -> x.price(0));
        refused("without", () -> plain("f;f"), NONE, x -> x.price(2));
    }

    static void promise15NoPlain() {
        refused("0", RainOwed::new, NONE, x -> x.price(0));
        refused("1", RainOwed::new, NONE, x -> x.price(1));
    }

    static void promise15IsAnAct() {
        RainOwed x = plain("f;f");
        x.price(9);
        due("one", 1, x.count(10));
        due("undone", 0, x.undo());
        due("as told", 2, x.rule(2));
    }

    static void promise17None() {
        refused("none", () -> plain("f;f"), NONE, RainOwed::undo);
        RainOwed x = plain("f;f");
        x.year(1);
        due("one", 0, x.undo());
        due("none left", NONE, x.undo());
        due("none left", NONE, x.undo());
    }

    static void promise17EachKindOfActIsUndone() {
        String plain = "sp1;fo9;fn7;fo3";
        Call[] acts = {x -> x.year(33), x -> x.sell(0, 1, 2), x -> x.forgive(0, 3), x -> x.hedge(1), x -> x.can(2),
            x -> x.price(8), x -> x.years(1, 4)};
        for (Call act : acts) {
            RainOwed x = plain(plain);
            due("can be", true, act.on(x) >= 0);
            due("an act", 1, x.count(10));
            due("undone", 0, x.undo());
            due("as at first", true, Probe.of(x).equals(Probe.of(plain(plain))));
        }
    }

    static void promise17TheLatest40() {
        RainOwed x = plain("f;f");
        for (int k = 1; k <= 45; k++) {
            x.price(k % 2 == 0 ? 2 : 1);
            due("acts", Math.min(k, 40), x.count(10));
        }
        for (int k = 39; k >= 0; k--) {
            due("still can be", k, x.undo());
        }
        due("the 41st", NONE, x.undo());
        due("as behind the fifth", 1, x.rule(2));
    }

    static void promise17FortyAndOneMore() {
        RainOwed x = after(plain("f;f"), 40, 3);
        due("40", 40, x.count(10));
        x.year(3);
        due("40", 40, x.count(10));
        for (int k = 0; k < 40; k++) {
            x.undo();
        }
        due("the first can't be undone", NONE, x.undo());
        due("the year", 1, x.count(5));
    }

    static void promise17GoesRoundAgainAndAgain() {
        RainOwed x = plain("f;f");
        for (int round = 0; round < 3; round++) {
            after(x, 35, round);
            for (int k = 0; k < 10; k++) {
                x.undo();
            }
            due("the year", 25 * (round + 1), x.count(5));
            due("the latest", round, x.log(0, 0));
        }
        due("acts", 30, x.count(10));
        for (int k = 0; k < 30; k++) {
            x.undo();
        }
        due("none", NONE, x.undo());
        due("the year", 45, x.count(5));
    }

    static void promise17WhatIsRefusedIsNoAct() {
        RainOwed x = plain("f;f");
        x.year(100);
        x.sell(0, 1, 1);
        x.forgive(0, 1);
        x.hedge(0);
        x.can(2);
        x.price(2);
        x.years(61, 1);
        due("none", 0, x.count(10));
        due("none", NONE, x.undo());
    }

    static void promise17LawHeresyFellAndImageAreNoActs() {
        RainOwed x = withLaw("f;f", "y:1");
        x.heresy(3);
        x.fell(0, 1, 1, true);
        x.image();
        due("none", 0, x.count(10));
        x.year(3);
        x.fell(0, 1, 1, true);
        x.undo();
        due("what fell stays", 2, x.count(8));
        due("heresy stays", 3, x.count(7));
    }

    static void promise17TheLast999thYear() {
        RainOwed x = inYear(plain("f;f"), 999);
        due("undone", 39, x.undo());
        due("the year", 998, x.count(5));
        due("one goes by again", true, x.year(5) >= 0);
        due("the year", 999, x.count(5));
    }

    static void promise18AnEmptyLog() {
        for (int what = 0; what < 3; what++) {
            due("a new plain", NONE, plain("f;f").log(0, what));
            due("no plain", NONE, new RainOwed().log(0, what));
        }
    }

    static void promise18NoSuchOnes() {
        for (int n : new int[] {-1, 3, LEAST_INT, MOST_INT}) {
            refused("i " + n, Edges::busy, NONE, x -> x.log(n, 0));
            refused("what " + n, Edges::busy, NONE, x -> x.log(0, n));
        }
        refused("one behind the last", Edges::busy, NONE, x -> x.log(2, 0));
    }

    static void promise18TheLatest60() {
        RainOwed x = plain("f;f");
        for (int k = 0; k < 61; k++) {
            x.year(k);
            due("how long", Math.min(60, k + 1), x.count(9));
            due("the oldest", k < 60 ? 0 : 1, x.log(Math.min(59, k), 0));
        }
        for (int i = 0; i < 60; i++) {
            due("entry " + i, 60 - i, x.log(i, 0));
        }
        due("no 61st", NONE, x.log(60, 0));
    }

    static void promise18WhatWasGoneIsBackWhenUndone() {
        RainOwed x = plain("f;f");
        for (int k = 0; k < 70; k++) {
            x.year(k);
        }
        due("the oldest", 10, x.log(59, 0));
        for (int k = 0; k < 10; k++) {
            x.undo();
        }
        due("60 still", 60, x.count(9));
        due("the oldest", 0, x.log(59, 0));
        due("the latest", 59, x.log(0, 0));
        x.undo();
        due("59", 59, x.count(9));
        due("the oldest", 0, x.log(58, 0));
        due("no 60th", NONE, x.log(59, 0));
    }

    static void promise18GoesRoundManyTimes() {
        RainOwed x = inYear(plain("f;f"), 900);
        for (int k = 0; k < 99; k++) {
            x.year(k);
        }
        for (int i = 0; i < 60; i++) {
            due("entry " + i, 98 - i, x.log(i, 0));
        }
    }

    static void promise18NobodyOneAndAllDrowned() {
        RainOwed x = withLaw("sd10;f;f;f;f;f;f", "y:0");
        x.year(59);
        due("nobody", 0, x.log(0, 1));
        x.year(60);
        due("all", 63, x.log(0, 1));
        due("nothing", 0, x.log(0, 2));
        RainOwed y = withLaw("si0d10;f;fo1", "y:o*9");
        y.year(10);
        due("the second", 2, y.log(0, 1));
    }

    static void promise18OnlyYearsAreTold() {
        RainOwed x = plain("fo9;f");
        x.forgive(0, 1);
        x.hedge(0);
        x.can(0);
        x.price(9);
        due("none", 0, x.count(9));
        x.year(4);
        due("one", 1, x.count(9));
    }
}
