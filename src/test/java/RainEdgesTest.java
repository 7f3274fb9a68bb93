/** Edges of promises 22 to 27, 33 and 41: what falls where, who drowns, what would help, sales and trades. */
public final class RainEdgesTest extends Edges {
    public static void main(String[] args) {
        run(RainEdgesTest.class, 22, 23, 24, 25, 26, 27, 33, 41);
    }

    private static final int[] NO_FIELDS = {-1, 3, 6, LEAST_INT, MOST_INT};
    private static final int[] NO_RAIN = {-1, 100, LEAST_INT, MOST_INT};
    private static final int[] NO_WHAT = {-1, 2, LEAST_INT, MOST_INT};

    static void promise22NoSuchField() {
        for (int f : NO_FIELDS) {
            refused("field " + f, Edges::busy, NONE, x -> x.falls(f, 1));
        }
    }

    static void promise22RainOutOfBounds() {
        for (int rain : NO_RAIN) {
            refused("rain " + rain, Edges::busy, NONE, x -> x.falls(0, rain));
        }
    }

    static void promise22RainFrom0To99() {
        RainOwed x = withLaw("f;f;f", "y:0");
        due("none", 0, x.falls(2, 0));
        due("99", 33, x.falls(2, 99));
    }

    static void promise22TheSixthOfSix() {
        RainOwed x = withLaw("si0;f;f;f;f;f;fo9", "y:o");
        due("the share and nine", 19, x.falls(5, 60));
        due("the fifth has one less of the rest", 1, x.falls(4, 60));
        due("no seventh", NONE, x.falls(6, 60));
    }

    static void promise22GoesOnIn999() {
        RainOwed x = inYear(withLaw("f;f;f", "y:t=999?3;y:0"), 999);
        due("with the year 999", 13, x.falls(x.turn(0), 30));
        due("no year goes by", 999, x.count(5));
    }

    static void promise22IsApart() {
        refused("nothing changes", Edges::busy, 0, x -> x.falls(2, 0));
    }

    static void promise23RainOutOfBounds() {
        for (int rain : NO_RAIN) {
            refused("rain " + rain, Edges::busy, NONE, x -> x.drowns(rain));
        }
    }

    static void promise23NobodyAndAllOfSix() {
        RainOwed x = withLaw("sd16;f;f;f;f;f;f", "y:0");
        due("nobody without rain", 0, x.drowns(0));
        due("nobody by 15", 0, x.drowns(95));
        due("all by 16", 63, x.drowns(96));
        due("all by 16", 63, x.drowns(99));
    }

    static void promise23TheBitOfEachField() {
        for (int f = 0; f < 6; f++) {
            StringBuilder text = new StringBuilder("si0d6");
            for (int k = 0; k < 6; k++) {
                text.append(k == f ? ";fo9" : ";f");
            }
            due("field " + f, 1 << f, plain(text.toString()).drowns(12));
        }
    }

    static void promise23NoPlain() {
        due("drowns", NONE, new RainOwed().drowns(0));
    }

    static void promise24From0To99() {
        due("99", 99, withLaw("sd99;f;f", "y:0").safe());
        due("99 by 50 each", 99, withLaw("sd50;f;f", "y:0").safe());
        due("97 by 49 each", 97, withLaw("sd49;f;f", "y:0").safe());
        due("98", 98, withLaw("sd99;f;f", "y:99").safe());
        due("0", 0, withLaw("sd1;f;f", "y:99").safe());
        due("1: the share is cut", 1, withLaw("sd1;f;f", "y:0").safe());
    }

    static void promise24TheMostThoughSomebodyDrownsByLess() {
        RainOwed x = withLaw("si0d10;f;f", "y:s=4?6;y:0");
        due("by 8 nobody: only 8 falls", 0, x.drowns(8));
        RainOwed y = withLaw("si0d10;f;f;f", "y:s=4?6;y:0");
        due("by 12 one", 1, y.drowns(12));
        due("by 29 nobody", 29, y.safe());
    }

    static void promise24NoPlain() {
        due("safe", NONE, new RainOwed().safe());
    }

    static void promise25RainOutOfBoundsAndNoSuchWhat() {
        for (int rain : NO_RAIN) {
            refused("rain " + rain, Edges::busy, NONE, x -> x.least(rain, 0));
        }
        for (int what : NO_WHAT) {
            refused("what " + what, Edges::busy, NONE, x -> x.least(20, what));
        }
    }

    private static void least(RainOwed x, int rain, int field, int much) {
        due("the field", field, x.least(rain, 0));
        due("how much", much, x.least(rain, 1));
        due("apart", 0, x.count(10));
    }

    static void promise25NobodyDrowns() {
        least(plain("sd99;fo9;fo9"), 10, 0, 0);
        least(plain("sd99;f;f"), 0, 0, 0);
        least(plain("sd1;fo99;fo99"), 0, 0, 0);
    }

    static void promise25AllThatIsOwed() {
        least(withLaw("si0d8;f;fo5;f", "y:o>0?1;y:0"), 21, 1, 5);
        least(withLaw("si0d8;f;fo99;f", "y:o>0?1;y:0"), 21, 1, 99);
    }

    static void promise25OneLess() {
        least(withLaw("si0d8;f;fo5;f", "y:o>4?1;y:0"), 21, 1, 1);
    }

    static void promise25MostThatCanBeOwed() {
        RainOwed x = after(withLaw("si9d8;f;fo99;f", "y:o>0?1;y:0"), 5, 0);
        field(x, 1, 999);
        due("the field", 1, x.least(21, 0));
        due("all", 999, x.least(21, 1));
    }

    static void promise25NoMoreThanIsOwed() {
        least(withLaw("si0d8;fo5n1;f;f", "y:o<0|!n=1?0;y:1"), 21, NONE, NONE);
    }

    static void promise25TheLastOfSix() {
        least(withLaw("si0d8;f;f;f;f;f;fo5", "y:o>4?1;y:0"), 43, 5, 1);
        least(withLaw("si0d8;f;f;f;f;f;fo5", "y:0"), 48, NONE, NONE);
    }

    static void promise25FieldsThatAreGoneDoNotCount() {
        RainOwed x = withLaw("f;f;fo9;fo9;fo9;fo9", "y:0");
        Checks.tell(x, "si0d7;f;f").text(0);
        least(x, 14, NONE, NONE);
    }

    static void promise25ByNone() {
        least(withLaw("si0d7;fo5;fo5;f", "y:0"), 21, NONE, NONE);
        least(withLaw("si0d8;fo5;fo5;f", "y:o>0?1;y:0"), 21, NONE, NONE);
    }

    static void promise25OfSeveralTheLowestField() {
        least(withLaw("si0d17;fo4n1;fo3;f", "y:o=3&n=1?5;y:o=3?20;y:0"), 30, 0, 1);
        least(withLaw("si0d17;f;fo4n1;fo3", "y:o=3&n=1?5;y:o=3?20;y:0"), 30, 1, 1);
    }

    static void promise25TheLeastNotTheLowestField() {
        least(withLaw("si0d17;fo5n1;fo3;f", "y:o=3&n=1?5;y:o=3?20;y:0"), 30, 1, 1);
    }

    static void promise25TheMistDoesNotMatter() {
        least(withLaw("si0d8;fw5;fo5w5;f", "y:o>4|w>5?1;y:0"), 21, 1, 1);
    }

    static void promise26RainOutOfBoundsAndNoSuchWhat() {
        for (int rain : NO_RAIN) {
            refused("rain " + rain, Edges::busy, NONE, x -> x.best(rain, 0));
        }
        for (int what : NO_WHAT) {
            refused("what " + what, Edges::busy, NONE, x -> x.best(20, what));
        }
    }

    private static void best(RainOwed x, int rain, int sale, int borne) {
        due("the sale", sale, x.best(rain, 0));
        due("how much", borne, x.best(rain, 1));
        due("apart", 0, x.count(10));
    }

    static void promise26NoSaleCouldBe() {
        best(plain("f;f"), 10, NONE, NONE);
        best(plain("sp21;fo9;fo9"), 10, NONE, NONE);
        best(plain("sp1;fo9c0;fc0"), 10, NONE, NONE);
    }

    static void promise26OneCouldBe() {
        best(plain("sp20;fo1;f"), 0, 11, 30);
        best(plain("sp20;f;fo1"), 0, 101, 30);
        best(plain("sp20;f;f;f;f;fc0;fo1c0"), 0, 501, 90);
    }

    static void promise26NineAtMost() {
        best(withLaw("si0d99p0;fo40n0;fn20w0v1;fv0", "y:n=20?o;y:0"), 30, 19, 19);
    }

    static void promise26NoMoreThanIsOwedOrCanBePaid() {
        best(withLaw("si0d99p0;fo8n0;fn20w0v1;fv0", "y:n=20?o;y:0"), 30, 18, 18);
        best(withLaw("si0d99p3;fo40n0;fn20w0v1c20;fv0", "y:n=20?o;y:0"), 30, 16, 16);
    }

    static void promise26NothingBorneIsASaleToo() {
        best(plain("fo5v0;fv0"), 10, 11, 0);
    }

    static void promise26TheLastOfSixBuysAndSells() {
        best(withLaw("si0d99p0;fo9n0;fv0;fv0;fv0;fv0;fn20w0v1", "y:n=20?o;y:0"), 60, 59, 19);
        best(withLaw("si0d99p0;fn20w0v1;fv0;fv0;fv0;fv0;fo9n0", "y:n=20?o;y:0"), 60, 509, 19);
    }

    static void promise26OfSeveralTheLeast() {
        best(plain("sp0;fo9;fo9;fo9"), 0, 11, 45);
        best(plain("sp0;f;fo9;fo9"), 0, 101, 45);
        best(withLaw("si0d99p0;fo40n0;fn20w0v1;fv0", "y:n=20&o>2?3;y:0"), 30, 13, 13);
    }

    static void promise26TheSellerHas999AtMost() {
        RainOwed x = after(withLaw("si0d99p1;fo50n20w30v9c99;fc99n0", "y:0"), 5, 40);
        due("999", 999, x.field(0, 4));
        due("none", NONE, x.best(10, 0));
        x.price(0);
        due("for nothing", 11, x.best(10, 0));
    }

    static void promise27RainOutOfBounds() {
        for (int rain : NO_RAIN) {
            refused("rain " + rain, Edges::busy, NONE, x -> x.trades(rain, NONE));
        }
    }

    /** Each of the sellers gets a coin; each of the buyers bears 9 more for it. */
    private static RainOwed traders() {
        return withLaw("si0d99p1;fo1n0;fo1n0;fn20w0v9;fn20w0v9", "y:o");
    }

    static void promise27NoSuchOne() {
        RainOwed x = traders();
        due("the first", 2, x.trades(6, 0));
        due("the last", 13, x.trades(6, 3));
        due("behind the last", NONE, x.trades(6, 4));
        due("below", NONE, x.trades(6, -2));
        due("the least", NONE, x.trades(6, LEAST_INT));
        due("the most", NONE, x.trades(6, MOST_INT));
    }

    static void promise27RisingEachOnce() {
        RainOwed x = traders();
        int[] trades = {2, 3, 12, 13};
        due("four", 4, x.trades(6, NONE));
        for (int i = 0; i < 4; i++) {
            due("trade " + i, trades[i], x.trades(6, i));
        }
        due("apart", 0, x.count(10));
    }

    static void promise27TheFirstBuysAndTheLastSells() {
        RainOwed x = withLaw("si0d99p1;fn20w0v9;f;f;f;f;fo1n0v0", "y:o;y:0");
        due("share 2, and one more for the first", 2, x.falls(0, 12));
        due("from the last to the first", 50, x.trades(12, 0));
        due("this one alone", 1, x.trades(12, NONE));
    }

    static void promise27FieldsThatAreGoneDoNotTrade() {
        RainOwed x = withLaw("f;f;fo9;fo9;fo9;fo9", "y:o");
        Checks.tell(x, "si0d99p1;fv0;fv0").text(0);
        due("none", 0, x.trades(12, NONE));
    }

    static void promise27NoneCouldBe() {
        due("nothing is owed", 0, plain("f;f").trades(10, NONE));
        due("nobody can pay", 0, plain("sp21;fo9;fo9").trades(10, NONE));
        due("the first of none", NONE, plain("f;f").trades(10, 0));
    }

    /** The buyer bears one more by what it buys, so it has more only if it pays less than that. */
    private static int both(int price, int value) {
        RainOwed x = withLaw("si0d99p" + price + ";fo1n0;fn20w0v" + value + ";fv0n0", "y:o");
        return x.trades(30, NONE) == 1 && x.trades(30, 0) == 1 ? 1 : x.trades(30, NONE);
    }

    static void promise27EachHasMore() {
        due("pays 1, bears 2", 1, both(1, 2));
        due("pays 1, bears 1: not more", 0, both(1, 1));
        due("pays 2, bears 1: less", 0, both(2, 1));
        due("pays 8, bears 9", 1, both(8, 9));
        due("for nothing the seller has not more", 0, both(0, 9));
    }

    /** The first got 180 coins in each of some years, and may bear 180 again; the third wants its rain. */
    private static RainOwed richSeller(int coins, int years, boolean bears) {
        String first = "fn20w30v9c" + coins + (bears ? "o1" : "o0");
        String second = "fn0v0" + (bears ? "o0" : "o1");
        RainOwed x = after(withLaw("si0d99p1;" + first + ";" + second + ";fn20w0v2", "y:0"), years, 60);
        if (!bears) {
            x.hedge(0);
        }
        field(x, 0, 1, bears ? 20 : 0, 10, 9, coins + 180 * years);
        Checks.law(x, "y:o");
        return x;
    }

    static void promise27ASellerHas999AtMost() {
        due("998: one coin more", 2, richSeller(98, 5, false).trades(30, 0));
        due("999: it can't be", 0, richSeller(99, 5, false).trades(30, NONE));
        due("818: 998 without, 999 with it", 2, richSeller(98, 4, true).trades(30, 0));
        due("819: 999 either way", 0, richSeller(99, 4, true).trades(30, NONE));
        due("998: 999 either way", 0, richSeller(98, 5, true).trades(30, NONE));
    }

    static void promise33NoSuchField() {
        for (int f : NO_FIELDS) {
            refused("field " + f, Edges::busy, NONE, x -> x.odds(f, 0, 9));
        }
    }

    static void promise33OutOfBounds() {
        refused("a below 0", Edges::busy, NONE, x -> x.odds(0, -1, 9));
        refused("both below 0", Edges::busy, NONE, x -> x.odds(0, -2, -1));
        refused("b above 99", Edges::busy, NONE, x -> x.odds(0, 0, 100));
        refused("both above 99", Edges::busy, NONE, x -> x.odds(0, 100, 100));
        refused("a above b", Edges::busy, NONE, x -> x.odds(0, 6, 5));
        refused("the least", Edges::busy, NONE, x -> x.odds(0, LEAST_INT, MOST_INT));
        refused("the most", Edges::busy, NONE, x -> x.odds(0, MOST_INT, LEAST_INT));
    }

    static void promise33TheSixthOfSix() {
        RainOwed x = withLaw("si0d19;f;f;f;f;f;fo9", "y:o");
        due("from 60 on", 400000, x.odds(5, 0, 99));
        due("the others never", 0, x.odds(0, 0, 99));
    }

    static void promise33OneRainAlone() {
        RainOwed x = withLaw("sd10;f;f", "y:0");
        due("by 20", 1000000, x.odds(0, 20, 20));
        due("by 19", 0, x.odds(0, 19, 19));
        due("by 0", 0, x.odds(0, 0, 0));
        due("by 99", 1000000, x.odds(1, 99, 99));
    }

    static void promise33AllRain() {
        due("80 of 100", 800000, withLaw("sd10;f;f", "y:0").odds(0, 0, 99));
        due("none of 100", 0, withLaw("sd99;f;f", "y:0").odds(0, 0, 99));
        due("99 of 100", 990000, withLaw("sd1;f;f", "y:99").odds(0, 0, 99));
        due("99 of 99", 1000000, withLaw("sd1;f;f", "y:99").odds(0, 1, 99));
    }

    static void promise33IsCut() {
        RainOwed x = withLaw("sd10;f;f", "y:0");
        due("1 of 3", 333333, x.odds(0, 18, 20));
        due("2 of 3", 666666, x.odds(0, 19, 21));
        due("1 of 7", 142857, x.odds(0, 14, 20));
        due("79 of 98", 806122, x.odds(0, 1, 98));
    }

    static void promise41RainOutOfBounds() {
        for (int rain : NO_RAIN) {
            refused("rain " + rain, Edges::busy, NONE, x -> x.harvest(rain));
        }
    }

    static void promise41NothingAndMost() {
        due("no water", 0, plain("fw0;fw0").harvest(0));
        due("all drown", 0, withLaw("sd1;f;f", "y:0").harvest(2));
        due("six times 180", 1080, plain("fn20w30v9;fn20w30v9;fn20w30v9;fn20w30v9;fn20w30v9;fn20w30v9").harvest(0));
    }

    static void promise41NotHeldByTheCoinsOneCanHave() {
        RainOwed x = after(withLaw("si0d99;fn20w30v9c99;fn0", "y:0"), 5, 40);
        due("999", 999, x.field(0, 4));
        due("bears", 180, x.harvest(40));
    }

    static void promise41NoPlain() {
        due("harvest", NONE, new RainOwed().harvest(0));
    }

    static void promise41IsApart() {
        RainOwed x = inYear(plain("f;f"), 999);
        due("goes on in 999", true, x.harvest(10) >= 0);
        due("no year goes by", 999, x.count(5));
    }
}
