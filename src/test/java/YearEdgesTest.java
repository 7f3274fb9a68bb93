import java.math.BigInteger;

/** Edges of promises 9, 10 and 16: heresy, a year, years by draws. */
public final class YearEdgesTest extends Edges {
    public static void main(String[] args) {
        run(YearEdgesTest.class, 9, 10, 16);
    }

    static void promise9NoneAtFirst() {
        due("count(7)", 0, new RainOwed().count(7));
        refused("it is so", RainOwed::new, 0, x -> x.heresy(0) ? 1 : 0);
    }

    static void promise9From0To9() {
        RainOwed x = new RainOwed();
        due("9", true, x.heresy(9));
        due("so", 9, x.count(7));
        due("0", true, x.heresy(0));
        due("so", 0, x.count(7));
        due("1", true, x.heresy(1));
        due("so", 1, x.count(7));
    }

    static void promise9OutOfBounds() {
        for (int v : new int[] {-1, 10, LEAST_INT, MOST_INT}) {
            refused("heresy(" + v + ")", Edges::busy, 0, x -> x.heresy(v) ? 1 : 0);
        }
    }

    static void promise9ItIsSo() {
        refused("heresy(4)", Edges::busy, 0, x -> x.heresy(4) ? 1 : 0);
        RainOwed x = new RainOwed();
        x.heresy(9);
        due("9 again", false, x.heresy(9));
    }

    static void promise9IsNoAct() {
        RainOwed x = plain("f;f");
        x.heresy(5);
        due("acts", 0, x.count(10));
    }

    static void promise10RainOutOfBounds() {
        for (int rain : new int[] {-1, 100, LEAST_INT, MOST_INT}) {
            refused("year(" + rain + ")", Edges::busy, NONE, x -> x.year(rain));
        }
    }

    static void promise10RainFrom0To99() {
        RainOwed x = plain("sd99;f;f");
        due("none", 30, x.year(0));
        due("99", 36, x.year(99));
        due("told", 99, x.log(0, 0));
        due("told", 0, x.log(1, 0));
    }

    static void promise10NoPlain() {
        refused("year", RainOwed::new, NONE, x -> x.year(0));
    }

    static void promise10TheYearIs0AtFirstAndOneLaterThen() {
        RainOwed x = plain("f;f");
        due("at first", 0, x.count(5));
        x.year(0);
        due("then", 1, x.count(5));
    }

    static void promise10NoneGoesByIn999() {
        RainOwed x = inYear(plain("f;f"), 998);
        due("the last one", true, x.year(0) >= 0);
        due("999", 999, x.count(5));
        refused("none", () -> inYear(plain("f;f"), 999), NONE, y -> y.year(0));
        refused("none by draws", () -> inYear(plain("f;f"), 999), NONE, y -> y.years(1, 1));
    }

    static void promise10InterestIsCut() {
        field(after(withLaw("si1;fo9;fo19", "y:0"), 1, 0), 0, 9);
        field(after(withLaw("si1;fo9;fo19", "y:0"), 1, 0), 1, 20);
        field(after(withLaw("si1;fo10;f", "y:0"), 1, 0), 0, 11);
        field(after(withLaw("si9;fo1;fo99", "y:0"), 1, 0), 0, 1);
        field(after(withLaw("si9;fo1;fo99", "y:0"), 1, 0), 1, 188);
        field(after(withLaw("si0;fo99;f", "y:0"), 1, 0), 0, 99);
    }

    static void promise10InterestOwes999AtMost() {
        RainOwed x = after(withLaw("si9;fo99;f", "y:0"), 3, 0);
        field(x, 0, 678);
        Checks.law(x, "y:o-990");
        due("999 ahead of the rain", 49 + 9, x.falls(0, 99));
        x.year(0);
        field(x, 0, 999);
        x.year(0);
        field(x, 0, 999);
    }

    static void promise10TheShareIsCut() {
        RainOwed x = withLaw("si0;f;f;f", "y:0");
        due("5 by 3", 1, x.falls(0, 5));
        due("6 by 3", 2, x.falls(0, 6));
        due("2 by 3", 0, x.falls(0, 2));
        due("99 by 6", 16, withLaw("f;f;f;f;f;f", "y:0").falls(0, 99));
        x.year(5);
        due("what is left is not owed", 0, x.field(2, 0));
    }

    static void promise10TheMostOwedFirstOfSeveralTheLowest() {
        RainOwed x = plain("si0;fo4;fo8;fo8;fo9");
        due("the most", 4, x.falls(3, 4));
        due("nothing left", 0, x.falls(1, 4));
        due("of several the lowest", 2, x.falls(1, 8));
        due("the other one", 0, x.falls(2, 8));
    }

    static void promise10InTurnByWhatIsOwedWithInterest() {
        RainOwed x = after(withLaw("si9;fo98;fo99", "y:0"), 3, 0);
        field(x, 0, 670);
        field(x, 1, 678);
        x.law(NONE);
        due("both are owed 999: the lowest", 9, x.falls(0, 9));
        due("nothing left", 0, x.falls(1, 9));
    }

    static void promise10NoLessThan0IsPaid() {
        RainOwed x = withLaw("si0;fo5;f", "y:0-1");
        due("the share", 5, x.falls(0, 10));
        due("the share", 5, x.falls(1, 10));
        due("by far less", 5, withLaw("f;f", "y:0-9999*9999").falls(0, 10));
    }

    static void promise10WorthOfAMillionPaysNoMoreThanThereIs() {
        RainOwed x = withLaw("si0d99;fo5;f", "y:9999*9999");
        due("all", 98, x.falls(0, 98));
        due("nothing", 0, x.falls(1, 98));
        due("all", 99, x.falls(0, 99));
    }

    static void promise10WithoutALawHalfIsPaidCut() {
        due("of 5", 12, plain("si0;fo5;f;f").falls(0, 30));
        due("of 1", 10, plain("si0;fo1;f;f").falls(0, 30));
        due("of 2", 11, plain("si0;fo2;f;f").falls(0, 30));
        due("of 0", 10, plain("si0;fo0;f;f").falls(0, 30));
        due("of what is owed with interest", 15, plain("si1;fo10;f;f").falls(0, 30));
        due("of what is owed with interest", 16, plain("si2;fo10;f;f").falls(0, 30));
    }

    static void promise10NoMoreFallsThanIsLeft() {
        RainOwed x = plain("si0d99;fo50;fo40;f");
        due("25 more than the share", 19 + 25, x.falls(0, 59));
        due("all", 30, x.falls(0, 30));
        due("nothing left", 0, x.falls(1, 30));
        due("nothing left", 0, x.falls(2, 30));
        due("15 left", 15, x.falls(1, 59));
        due("nothing left", 0, x.falls(2, 59));
    }

    static void promise10OwedLessBy0AtLeast() {
        RainOwed x = withLaw("si0d99;fo3;fo2", "y:o");
        x.year(40);
        field(x, 0, 0);
        field(x, 1, 2 + 3);
        RainOwed y = withLaw("si0d99;fo3;f", "y:4");
        y.year(40);
        field(y, 0, 0);
        RainOwed z = withLaw("si0d99;fo3;f", "y:2");
        z.year(40);
        field(z, 0, 1);
    }

    static void promise10OwedMoreBy999AtMost() {
        RainOwed x = after(plain("si9;fo99;fo99"), 4, 0);
        field(x, 0, 999);
        field(x, 1, 999);
        due("the share is not there", 0, x.falls(1, 40));
        x.year(40);
        field(x, 0, 999 - 20);
        field(x, 1, 999);
    }

    static void promise10OwedMoreByHowMuchLessFell() {
        RainOwed x = plain("si0d99;fo50;f");
        x.year(10);
        field(x, 0, 45);
        field(x, 1, 5);
    }

    static void promise10Water30AtMost() {
        RainOwed x = withLaw("si0;fw30n0;fw20n0", "y:0");
        x.year(20);
        due("full", 30, x.field(0, 2));
        due("just full", 30, x.field(1, 2));
        RainOwed y = withLaw("si0;fw30n20;fw19n0", "y:0");
        y.year(20);
        due("no more than 30 ahead of what is used", 10, y.field(0, 2));
        due("one less", 29, y.field(1, 2));
        RainOwed z = withLaw("si0;fw21n0;f", "y:0");
        z.year(20);
        due("one more is gone", 30, z.field(0, 2));
    }

    static void promise10AsMuchAsDrownsOrMore() {
        RainOwed x = withLaw("sd10;f;f", "y:0");
        due("9", 0, x.drowns(18));
        due("9", 0, x.drowns(19));
        due("10", 3, x.drowns(20));
        due("11", 3, x.drowns(22));
        RainOwed least = withLaw("sd1;f;f", "y:0");
        due("nothing falls", 0, least.drowns(1));
        due("1", 3, least.drowns(2));
        RainOwed most = withLaw("sd99;f;f", "y:99");
        due("98", 0, most.drowns(98));
        due("99", 1, most.drowns(99));
    }

    static void promise10WhoDrownsBearsNothingAndKeepsItsWater() {
        RainOwed x = withLaw("si0d10;fo7w3;fw29c99", "y:0");
        due("nothing", 0, x.year(20));
        field(x, 0, 7, 6, 13, 3, 20);
        field(x, 1, 0, 6, 30, 3, 99);
        due("both", 3, x.log(0, 1));
    }

    static void promise10NoMoreThanWaterIsUsed() {
        RainOwed x = plain("si0;fw3n6v3;fw6n6v3;fw7n6v3;fw0n6v3;fw5n0v3;fw5n6v0");
        due("9, 18, 18, 0, 0, 0", 45, x.year(0));
        int[] water = {0, 0, 1, 0, 5, 0};
        int[] coins = {29, 38, 38, 20, 20, 20};
        for (int f = 0; f < 6; f++) {
            due("water", water[f], x.field(f, 2));
            due("coins", coins[f], x.field(f, 4));
        }
    }

    static void promise10MostThatOneBears() {
        due("20 times 9", 180, plain("fn20w30v9;fn0").year(0));
    }

    static void promise10Coins999AtMost() {
        RainOwed x = withLaw("si0d99;fn20w30v9c98;fn0", "y:0");
        after(x, 5, 40);
        due("998", 998, x.field(0, 4));
        due("bears all the same", 180, x.year(40));
        due("999", 999, x.field(0, 4));
        due("bears all the same", 180, x.year(40));
        due("told all the same", 180, x.log(0, 2));
        due("999", 999, x.field(0, 4));
        RainOwed y = after(withLaw("si0d99;fn20w30v9c99;fn0", "y:0"), 5, 40);
        due("just 999", 999, y.field(0, 4));
    }

    private static final BigInteger ROUND = BigInteger.ONE.shiftLeft(64);

    private static BigInteger next(BigInteger x) {
        return x.multiply(new BigInteger("6364136223846793005")).add(new BigInteger("1442695040888963407")).mod(ROUND);
    }

    private static int draw(BigInteger x, int j) {
        return x.shiftRight(33).mod(BigInteger.valueOf(j)).intValue();
    }

    /** The rain of so many years by a seed, without heresy. */
    private static void rains(long seed, int n) {
        RainOwed x = plain("f;f");
        due("years", n, x.years(n, seed));
        BigInteger at = BigInteger.valueOf(seed).mod(ROUND);
        for (int k = 0; k < n; k++) {
            at = next(next(at));
            due("rain " + k + " by seed " + seed, draw(at, 100), x.log(n - 1 - k, 0));
        }
    }

    static void promise16NumbersGoRound() {
        for (long seed : new long[] {0, 1, -1, Long.MIN_VALUE, Long.MAX_VALUE, 1L << 33, -(1L << 33), 1234567890123L}) {
            rains(seed, 60);
        }
    }

    static void promise16From1To60() {
        due("1", 1, plain("f;f").years(1, 5));
        due("60", 60, plain("f;f").years(60, 5));
        for (int n : new int[] {0, -1, 61, LEAST_INT, MOST_INT}) {
            refused("years(" + n + ")", Edges::busy, NONE, x -> x.years(n, 5));
        }
    }

    static void promise16NoPlain() {
        refused("years", RainOwed::new, NONE, x -> x.years(1, 5));
    }

    static void promise16Beyond999() {
        due("just 999", 999, inYear(plain("f;f"), 939).years(60, 5));
        refused("1000", () -> inYear(plain("f;f"), 940), NONE, x -> x.years(60, 5));
        due("59", 999, inYear(plain("f;f"), 940).years(59, 5));
        refused("1000", () -> inYear(plain("f;f"), 999), NONE, x -> x.years(1, 5));
        due("999", 999, inYear(plain("f;f"), 998).years(1, 5));
    }

    /** A seed whose first draw of 10 is the one wanted. */
    private static long seedFor(int wanted, int from) {
        for (long seed = from; ; seed++) {
            if (draw(next(BigInteger.valueOf(seed)), 10) == wanted) {
                return seed;
            }
        }
    }

    /** Half of what is owed to one is gone ahead of the year, if the first draw is below heresy. */
    private static void heresy(int v, long seed, boolean doubted, int owed, int left) {
        RainOwed x = withLaw("si0;fo" + owed + ";fo" + owed + ";fo" + owed, "y:0");
        x.heresy(v);
        x.years(1, seed);
        BigInteger at = next(BigInteger.valueOf(seed));
        int who = NONE;
        if (doubted) {
            at = next(at);
            who = draw(at, 3);
        }
        at = next(at);
        due("rain", draw(at, 100), x.log(0, 0));
        for (int f = 0; f < 3; f++) {
            due("owed to " + f + " by seed " + seed, f == who ? left : owed, x.field(f, 0));
        }
    }

    static void promise16ADrawOf10BelowHeresy() {
        for (int v = 0; v <= 9; v++) {
            for (int drawn = 0; drawn <= 9; drawn++) {
                heresy(v, seedFor(drawn, 100 * v), drawn < v, 20, 10);
            }
        }
    }

    static void promise16HalfOfItCut() {
        for (int from = 0; from < 300; from += 30) {
            heresy(9, seedFor(8, from), true, 0, 0);
            heresy(9, seedFor(8, from), true, 1, 1);
            heresy(9, seedFor(8, from), true, 5, 3);
            heresy(9, seedFor(8, from), true, 99, 50);
        }
    }

    static void promise16EachIsOneAct() {
        RainOwed x = plain("f;f");
        x.heresy(9);
        x.years(5, 3);
        due("five", 5, x.count(10));
        due("one undone", 4, x.undo());
        due("four years", 4, x.count(5));
        x.years(60, 3);
        due("40 at most", 40, x.count(10));
    }

    static void promise16HeresyIsUndoneWithItsYear() {
        RainOwed x = withLaw("si0;fo20;fo20;fo20", "y:0");
        x.heresy(9);
        x.years(1, seedFor(0, 0));
        due("ten are gone", 50, x.all(4));
        due("undone", 0, x.undo());
        due("as at first", 60, x.all(4));
    }

    static void promise16EachYearGoesOnWithTheDraws() {
        RainOwed at = plain("fo50;fo60;f");
        at.heresy(5);
        at.years(8, 77);
        RainOwed once = plain("fo50;fo60;f");
        once.heresy(5);
        once.years(8, 77);
        once.years(1, 77);
        at.years(1, 77);
        for (int f = 0; f < 3; f++) {
            due("alike", at.field(f, 0), once.field(f, 0));
        }
        due("the seed begins anew each time", at.log(0, 0), first(77));
    }

    private static int first(long seed) {
        RainOwed x = plain("f;f;f");
        x.heresy(5);
        x.years(1, seed);
        return x.log(0, 0);
    }
}
