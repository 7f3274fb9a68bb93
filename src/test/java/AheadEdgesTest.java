/** Edges of promises 34 to 40 and 42: turns, years ahead, what is so of all. */
public final class AheadEdgesTest extends Edges {
    public static void main(String[] args) {
        run(AheadEdgesTest.class, 34, 35, 36, 37, 38, 39, 40, 42);
    }

    private static final int[] NO_FIELDS = {-1, 3, 6, LEAST_INT, MOST_INT};
    private static final int[] NO_RAIN = {-1, 100, LEAST_INT, MOST_INT};

    static void promise34NoSuchOne() {
        for (int i : NO_FIELDS) {
            refused("turn(" + i + ")", Edges::busy, NONE, x -> x.turn(i));
        }
        due("the second of two", 1, plain("f;f").turn(1));
        due("no third", NONE, plain("f;f").turn(2));
        due("no plain", NONE, new RainOwed().turn(0));
    }

    static void promise34OfSeveralTheLowest() {
        RainOwed x = plain("fo5;fo5;f;fo5;f;fo6");
        int[] turn = {5, 0, 1, 3, 2, 4};
        for (int i = 0; i < 6; i++) {
            due("turn(" + i + ")", turn[i], x.turn(i));
        }
        due("no seventh", NONE, x.turn(6));
    }

    static void promise34WithInterestOf999AtMost() {
        RainOwed x = after(withLaw("si9;fo98;fo99", "y:0"), 3, 0);
        field(x, 0, 670);
        field(x, 1, 678);
        due("both 999: the lowest", 0, x.turn(0));
        due("the other", 1, x.turn(1));
    }

    static void promise35NoSuchField() {
        for (int f : NO_FIELDS) {
            refused("field " + f, Edges::busy, NONE, x -> x.ahead(f, 1, 1));
        }
    }

    static void promise35OutOfBounds() {
        for (int n : new int[] {-1, 31, LEAST_INT, MOST_INT}) {
            refused("n " + n, Edges::busy, NONE, x -> x.ahead(0, n, 1));
        }
        for (int rain : NO_RAIN) {
            refused("rain " + rain, Edges::busy, NONE, x -> x.ahead(0, 1, rain));
        }
    }

    static void promise35From0To30() {
        RainOwed x = withLaw("si0;fo50;f;f", "y:1");
        due("0: as it is", 50, x.ahead(0, 0, 99));
        due("1", 49, x.ahead(0, 1, 9));
        due("30", 20, x.ahead(0, 30, 9));
        due("apart", 0, x.count(5));
        field(x, 0, 50);
    }

    static void promise35NothingAnd999() {
        RainOwed x = withLaw("si9d99;fo99;f", "y:o");
        due("999 at most", 999, withLaw("si9;fo99;f", "y:0").ahead(0, 30, 0));
        due("188 less 49 twice", 139, x.ahead(0, 1, 98));
        due("0 at least", 0, withLaw("si0;fo1;f;f", "y:9").ahead(0, 1, 30));
    }

    static void promise35TheSixthOfSix() {
        RainOwed x = withLaw("si1;f;f;f;f;f;fo90", "y:0");
        due("90 and nine", 99, x.ahead(5, 1, 0));
        due("99 and nine", 108, x.ahead(5, 2, 0));
        due("nothing to the first", 0, x.ahead(0, 30, 0));
    }

    static void promise35GoesOnBehind999() {
        RainOwed x = inYear(withLaw("si0d99;fo40;f", "y:t=1028?50;y:0"), 999);
        field(x, 0, 40);
        due("29", 40, x.ahead(0, 29, 50));
        due("30: the year 1028 pays 25", 15, x.ahead(0, 30, 50));
        due("no year goes by", 999, x.count(5));
    }

    static void promise36NoSuchField() {
        for (int f : NO_FIELDS) {
            refused("field " + f, Edges::busy, NONE, x -> x.even(f, 1));
        }
    }

    static void promise36OutOfBounds() {
        for (int rain : NO_RAIN) {
            refused("rain " + rain, Edges::busy, NONE, x -> x.even(0, rain));
        }
    }

    static void promise36From0To60() {
        for (int owed : new int[] {0, 1, 59, 60}) {
            due("owed " + owed, owed, withLaw("si0;fn1o" + owed + ";f", "y:n=1&o>0?1").even(0, 21));
        }
        due("61", NONE, withLaw("si0;fn1o61;f", "y:n=1&o>0?1").even(0, 21));
        due("never", NONE, plain("fo1;f").even(0, 0));
    }

    static void promise36TheFirstTime() {
        RainOwed x = withLaw("si0;fo2;f;f", "y:o>0&t<5?1;y:0");
        due("though more may be owed later", 2, x.even(0, 30));
        due("now, though rain would owe it", 0, plain("fo99;f").even(1, 99));
    }

    static void promise36GoesOnBehind999() {
        RainOwed x = inYear(withLaw("si0d99;fo40;f", "y:t=1010?40;y:0"), 999);
        field(x, 0, 40);
        due("in the year 1010", 12, x.even(0, 80));
    }

    static void promise37OutOfBounds() {
        for (int rain : NO_RAIN) {
            refused("rain " + rain, Edges::busy, NONE, x -> x.together(rain));
        }
        due("no plain", NONE, new RainOwed().together(1));
    }

    static void promise37From1To60() {
        for (int year : new int[] {0, 1, 58, 59}) {
            RainOwed x = withLaw("si0d11;f;f;f", "y:t=" + year + "?1;y:0");
            due("in year " + year, year + 1, x.together(32));
        }
        due("behind 61", NONE, withLaw("si0d11;f;f;f", "y:t=60?1;y:0").together(32));
        due("never", NONE, plain("f;f").together(0));
    }

    static void promise37TwoOrMore() {
        due("one is too few", NONE, withLaw("si0d11;fn1;f;f", "y:n=1?1;y:0").together(31));
        due("two", 1, withLaw("si0d11;fn1;f;fn1", "y:n=1?1;y:0").together(32));
        due("six", 1, withLaw("si0d10;f;f;f;f;f;f", "y:0").together(60));
    }

    static void promise37InOneYear() {
        RainOwed x = withLaw("si0d11;fn1;fn2;f", "y:t=0&n=1?1;y:t=1&n=2?1;y:0");
        due("one behind the other", NONE, x.together(30));
    }

    static void promise37GoesOnBehind999() {
        RainOwed x = inYear(withLaw("si0d99;f;f;f", "y:t=1010?1;y:0"), 999);
        due("never by 99", NONE, x.together(32));
        RainOwed y = inYear(withLaw("si0d11;f;f;f", "y:t=1010?1;y:0"), 999);
        due("in the year 1010", 12, y.together(32));
        due("no year goes by", 999, y.count(5));
    }

    static void promise38NoSuchWhat() {
        for (int what : new int[] {-1, 7, LEAST_INT, MOST_INT}) {
            refused("all(" + what + ")", Edges::busy, NONE, x -> x.all(what));
        }
    }

    static void promise38NoPlain() {
        for (int what = 0; what < 7; what++) {
            due("all(" + what + ")", NONE, new RainOwed().all(what));
        }
    }

    static void promise38OfSeveralTheLowest() {
        RainOwed x = plain("f;f;f;f;f;f");
        for (int what = 0; what < 4; what++) {
            due("all alike: " + what, 0, x.all(what));
        }
        RainOwed y = plain("fc9w9;fc8w8o7n7;fc8w8o7n7;fc9w9");
        for (int what = 0; what < 4; what++) {
            due("two alike: " + what, 1, y.all(what));
        }
    }

    static void promise38TheLastOne() {
        RainOwed x = plain("f;f;f;f;f;fc19w4o1n7");
        for (int what = 0; what < 4; what++) {
            due("all(" + what + ")", 5, x.all(what));
        }
    }

    static void promise38OwedByTheSky() {
        due("nothing", 0, plain("f;f").all(4));
        due("594", 594, plain("fo99;fo99;fo99;fo99;fo99;fo99").all(4));
        due("1998", 1998, after(plain("si9;fo99;fo99"), 5, 0).all(4));
    }

    static void promise38ShortMayBeMoreThanAYearCanHave() {
        due("120", 120, plain("f;f;f;f;f;fn20").all(5));
        due("nothing", 0, plain("fn0;fn0").all(5));
        due("2", 2, plain("fn0;fn1").all(5));
    }

    static void promise38ThirstNeedsMoreThanWater() {
        due("as much is no thirst", 0, plain("fn6w6;fn0w0").all(6));
        due("one more is", 1, plain("fn7w6;fn0w0").all(6));
        due("all six", 63, plain("fw0;fw0;fw0;fw0;fw0;fw0").all(6));
        due("the last", 32, plain("fw6;fw6;fw6;fw6;fw6;fw5").all(6));
    }

    static void promise39NoSuchField() {
        for (int f : NO_FIELDS) {
            refused("field " + f, Edges::busy, NONE, x -> x.shares(f, 1));
        }
    }

    static void promise39OutOfBounds() {
        for (int c : new int[] {-1, 1000, LEAST_INT, MOST_INT}) {
            refused("c " + c, Edges::busy, NONE, x -> x.shares(0, c));
        }
    }

    static void promise39From0To999() {
        RainOwed x = plain("fo1;fo2");
        due("0", 0, x.shares(0, 0));
        due("999", 333, x.shares(0, 999));
        due("999", 666, x.shares(1, 999));
        due("all to one", 999, plain("fo99;f").shares(0, 999));
        due("of 999 owed", 499, after(plain("si9;fo99;fo99"), 5, 0).shares(1, 999));
    }

    static void promise39IsCut() {
        RainOwed x = plain("fo1;fo2");
        due("a third of 1", 0, x.shares(0, 1));
        due("two thirds of 1", 0, x.shares(1, 1));
        due("two thirds of 2", 1, x.shares(1, 2));
    }

    static void promise39NothingIsOwed() {
        due("none", 0, plain("f;f").shares(0, 999));
        due("nothing to this one", 0, plain("f;fo9").shares(0, 999));
    }

    static void promise40OutOfBounds() {
        for (int n : new int[] {0, -1, 21, LEAST_INT, MOST_INT}) {
            refused("n " + n, Edges::busy, NONE, x -> x.buyers(n));
        }
        due("no plain", NONE, new RainOwed().buyers(1));
    }

    static void promise40From1To20() {
        RainOwed x = plain("sp2;fc1;fc2;fc39;fc40");
        due("1", 14, x.buyers(1));
        due("20", 8, x.buyers(20));
    }

    static void promise40JustEnoughCoins() {
        RainOwed x = plain("sp3;fc8;fc9;fc10");
        due("3", 6, x.buyers(3));
        due("nobody", 0, x.buyers(4));
    }

    static void promise40ForNothingAllCan() {
        due("20", 63, plain("sp0;fc0;fc0;fc0;fc0;fc0;fc0").buyers(20));
    }

    static void promise40ByThePriceNow() {
        RainOwed x = plain("sp3;fc30;fc29");
        due("10 for 3", 1, x.buyers(10));
        x.price(30);
        due("1 for 30", 1, x.buyers(1));
        due("2 for 30", 0, x.buyers(2));
    }

    static void promise42NoSuchField() {
        for (int f : NO_FIELDS) {
            refused("field " + f, Edges::busy, NONE, x -> x.forgiven(f));
        }
        due("no plain", NONE, new RainOwed().forgiven(0));
    }

    static void promise42ItIsNotTheFirst() {
        due("less is owed to it", 0, plain("fo9;fo8").forgiven(1));
        due("as much, but it is higher", 0, plain("fo9;fo9").forgiven(1));
        due("nothing is owed", 0, plain("f;f").forgiven(1));
    }

    static void promise42OneLessThanTheNextOrAsMuch() {
        due("behind a higher one: less than it", 5, plain("si0;fo9;fo5").forgiven(0));
        due("behind a lower one: as much", 4, plain("si0;fo5;fo9").forgiven(1));
        due("as much already", 1, plain("si0;fo9;fo9").forgiven(0));
    }

    static void promise42AllOfIt() {
        due("all", 9, plain("si0;f;fo9").forgiven(1));
        due("all", 9, plain("si0;fo9;fo1").forgiven(0));
    }

    static void promise42TheSixthOfSix() {
        due("as much as the fifth", 4, plain("si0;f;f;f;f;fo5;fo9").forgiven(5));
        due("not the first", 0, plain("si0;f;f;f;f;fo9;fo9").forgiven(5));
    }

    static void promise42ItWouldStillBe() {
        due("the others are owed nothing", NONE, plain("fo9;f;f").forgiven(0));
        due("nothing to forgive", NONE, plain("f;f").forgiven(0));
    }

    static void promise42WithInterestOf999AtMost() {
        RainOwed x = after(withLaw("si9;fo98;fo99", "y:0"), 4, 0);
        field(x, 0, 999);
        field(x, 1, 999);
        due("less than 526 are below 999", 999 - 525, x.forgiven(0));
        due("not the first", 0, x.forgiven(1));
    }
}
