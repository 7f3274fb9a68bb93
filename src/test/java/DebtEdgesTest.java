/** Edges of promises 28 to 32: what fell, debts that fit it, which rain to ask for, games and rests. */
public final class DebtEdgesTest extends Edges {
    public static void main(String[] args) {
        run(DebtEdgesTest.class, 28, 29, 30, 31, 32);
    }

    private static final int[] NO_FIELDS = {-1, 3, 6, LEAST_INT, MOST_INT};
    private static final int[] NO_RAIN = {-1, 100, LEAST_INT, MOST_INT};

    static void promise28NoSuchField() {
        for (int f : NO_FIELDS) {
            refused("field " + f, Edges::busy, NONE, x -> x.fell(f, 1, 1, true));
        }
    }

    static void promise28OutOfBounds() {
        for (int n : NO_RAIN) {
            refused("rain " + n, Edges::busy, NONE, x -> x.fell(0, n, 1, true));
            refused("v " + n, Edges::busy, NONE, x -> x.fell(0, 1, n, false));
        }
    }

    static void promise28RainAndVFrom0To99() {
        RainOwed x = plain("f;f");
        due("0 and 0", 1, x.fell(0, 0, 0, true));
        due("99 and 99", 2, x.fell(1, 99, 99, false));
        due("0 and 99", 3, x.fell(0, 0, 99, false));
        due("99 and 0", 4, x.fell(1, 99, 0, true));
    }

    static void promise28ThereAreTen() {
        RainOwed x = plain("f;f");
        for (int k = 1; k <= 10; k++) {
            due("how many", k, x.fell(k % 2, 0, 0, true));
            due("count(8)", k, x.count(8));
        }
        due("an eleventh", NONE, x.fell(0, 0, 1, true));
        due("ten", 10, x.count(8));
        due("the eleventh is not known", 100, x.debts(0, NONE));
    }

    static void promise28TheTenthCounts() {
        RainOwed x = plain("si0;f;f;f");
        for (int k = 1; k <= 9; k++) {
            x.fell(1, 0, 0, true);
        }
        x.fell(0, 30, 11, true);
        due("all but 0 and 1", 98, x.debts(0, NONE));
    }

    static void promise28TheSameAgainCountsToo() {
        RainOwed x = plain("f;f");
        x.fell(0, 5, 1, true);
        due("two", 2, x.fell(0, 5, 1, true));
    }

    static void promise28IsGoneWithThePlainAlone() {
        RainOwed x = plain("f;f");
        x.fell(0, 5, 1, true);
        x.image();
        x.year(3);
        x.fell(0, 5, 1, true);
        x.back();
        due("back", 2, x.count(8));
        Checks.tell(x, "f;f").text(0);
        due("another plain", 0, x.count(8));
    }

    static void promise29NoSuchField() {
        for (int f : NO_FIELDS) {
            refused("field " + f, Edges::busy, NONE, x -> x.debts(f, NONE));
            refused("field " + f, Edges::busy, NONE, x -> x.debts(f, 0));
        }
    }

    static void promise29From0To99() {
        RainOwed x = plain("f;fo50");
        due("all", 100, x.debts(0, NONE));
        due("the first", 0, x.debts(0, 0));
        due("the last", 99, x.debts(0, 99));
        due("behind the last", NONE, x.debts(0, 100));
    }

    static void promise29NoSuchOne() {
        for (int i : new int[] {-2, 100, LEAST_INT, MOST_INT}) {
            due("i " + i, NONE, plain("f;f").debts(0, i));
        }
    }

    static void promise29AtTheEdgeOfWhatFell() {
        RainOwed x = plain("si0;f;f;f");
        x.fell(0, 60, 25, true);
        due("10 and more", 90, x.debts(0, NONE));
        due("10", 10, x.debts(0, 0));
        x.fell(0, 60, 26, false);
        due("10 and 11", 2, x.debts(0, NONE));
        due("11", 11, x.debts(0, 1));
        due("no third", NONE, x.debts(0, 2));
    }

    static void promise29NoneFits() {
        RainOwed x = plain("si0;f;f;f");
        x.fell(0, 60, 0, false);
        due("none", 0, x.debts(0, NONE));
        due("no first", NONE, x.debts(0, 0));
        due("of another all", 100, x.debts(1, NONE));
        RainOwed y = plain("si0;f;f;f");
        y.fell(0, 60, 61, true);
        due("none", 0, y.debts(0, NONE));
    }

    static void promise29OnlyWhatFellOnThisFieldCounts() {
        RainOwed x = plain("si0;f;f;f;f;f;f");
        x.fell(5, 60, 15, true);
        for (int f = 0; f < 5; f++) {
            due("field " + f, 100, x.debts(f, NONE));
        }
        due("10 and more", 90, x.debts(5, NONE));
    }

    static void promise29AllThatFellOfItMustBeSo() {
        RainOwed x = plain("si0;f;f;f");
        x.fell(0, 60, 25, true);
        x.fell(0, 60, 24, false);
        due("none", 0, x.debts(0, NONE));
    }

    static void promise29OfAFieldToWhichMoreThan99IsOwed() {
        RainOwed x = after(withLaw("si9;fo99;fo99", "y:0"), 4, 0);
        field(x, 0, 999);
        due("0 .. 99 all the same", 100, x.debts(0, NONE));
        x.law(NONE);
        x.fell(0, 10, 1, true);
        due("the other is before it", 0, x.debts(0, NONE));
    }

    static void promise29AllElseIsAsNow() {
        RainOwed x = plain("si0;f;fo40");
        x.fell(0, 30, 16, true);
        due("it must be before the other one", 40, x.debts(0, 0));
        x.forgive(1, 20);
        x.forgive(1, 20);
        due("2 and more", 98, x.debts(0, NONE));
    }

    static void promise29IsApart() {
        refused("nothing changes", Edges::busy, NONE, x -> x.debts(0, 100));
        refused("nothing changes", Edges::busy, 100, x -> x.debts(2, NONE));
    }

    static void promise30NoSuchField() {
        for (int f : NO_FIELDS) {
            refused("field " + f, Edges::busy, NONE, x -> x.ask(f, 1));
        }
    }

    static void promise30OutOfBounds() {
        for (int v : NO_RAIN) {
            refused("v " + v, Edges::busy, NONE, x -> x.ask(0, v));
        }
    }

    static void promise30VFrom0To99() {
        due("0: always yes", 0, plain("f;f").ask(0, 0));
        due("99: by 99 alone some", 99, plain("si9;f;f").ask(0, 99));
        due("99: never", 0, withLaw("si0;f;f", "y:0").ask(0, 99));
    }

    static void promise30NothingFits() {
        RainOwed x = plain("f;f");
        x.fell(0, 10, 0, false);
        due("nothing", NONE, x.ask(0, 1));
        due("of the other one all", 10, plain("si0;f;f").ask(1, 10));
    }

    static void promise30OfSeveralTheLeast() {
        RainOwed x = withLaw("si0;f;f", "y:o>49?9;y:0");
        due("half yes from 15 to 29", 15, x.ask(0, 15));
        due("half yes from 7 to 27", 7, withLaw("si0;f;f;f;f", "y:o>49?9;y:0").ask(0, 7));
    }

    /** The rain to ask for, by letting each debt be owed in a plain of its own. */
    private static int askedByHand(String head, String item, String tail, int field, int v, int leastDebt) {
        int[] yes = new int[100];
        for (int debt = leastDebt; debt <= 99; debt++) {
            RainOwed x = plain(head + item + "o" + debt + tail);
            for (int rain = 0; rain <= 99; rain++) {
                yes[rain] += x.falls(field, rain) >= v ? 1 : 0;
            }
        }
        int best = 0;
        for (int rain = 1; rain <= 99; rain++) {
            if (Math.abs(2 * yes[rain] - 100 + leastDebt) < Math.abs(2 * yes[best] - 100 + leastDebt)) {
                best = rain;
            }
        }
        return best;
    }

    static void promise30EachDebtAndEachRainCounts() {
        for (int v = 0; v <= 99; v += 3) {
            due("for " + v, askedByHand("si1;fo30;", "f", ";fo60", 1, v, 0), plain("si1;fo30;f;fo60").ask(1, v));
        }
        RainOwed x = plain("si0;f;fo20;fo70;f");
        x.fell(0, 60, 25, true);
        int least = x.debts(0, 0);
        due("one row of debts", 100 - least, x.debts(0, NONE));
        for (int v = 1; v <= 99; v += 7) {
            due("for " + v, askedByHand("si0;", "f", ";fo20;fo70;f", 0, v, least), x.ask(0, v));
        }
    }

    static void promise30OneDebtAlone() {
        RainOwed x = withLaw("si0;f;f;f", "y:o=10?30;y:0");
        x.fell(0, 60, 25, true);
        due("one", 1, x.debts(0, NONE));
        due("yes or no: one apart by each rain", 0, x.ask(0, 9));
    }

    static void promise30ByTheLawThatHoldsNow() {
        RainOwed x = plain("si0;f;f;f");
        x.fell(0, 60, 25, true);
        x.fell(0, 60, 26, false);
        due("10 and 11", 2, x.debts(0, NONE));
        Checks.law(x, "y:o=10?30;y:0");
        due("nothing fits", NONE, x.ask(0, 9));
    }

    static void promise31NoSuchFields() {
        for (int f : NO_FIELDS) {
            refused("one " + f, Edges::busy, HIDDEN, x -> x.game(f, 1, 9, 0, 0, 0));
            refused("other " + f, Edges::busy, HIDDEN, x -> x.game(0, f, 9, 0, 0, 0));
        }
    }

    static void promise31Alike() {
        for (int f = 0; f < 3; f++) {
            int alike = f;
            refused("field " + f, Edges::busy, HIDDEN, x -> x.game(alike, alike, 9, 0, 0, 0));
        }
    }

    static void promise31OutOfBounds() {
        for (int n : NO_RAIN) {
            refused("rain " + n, Edges::busy, HIDDEN, x -> x.game(0, 1, n, 0, 0, 0));
        }
        for (int n : new int[] {-1, 6, LEAST_INT, MOST_INT}) {
            refused("x " + n, Edges::busy, HIDDEN, x -> x.game(0, 1, 9, n, 0, 0));
            refused("y " + n, Edges::busy, HIDDEN, x -> x.game(0, 1, 9, 0, n, 0));
        }
        for (int n : new int[] {-1, 2, LEAST_INT, MOST_INT}) {
            refused("what " + n, Edges::busy, HIDDEN, x -> x.game(0, 1, 9, 0, 0, n));
        }
    }

    static void promise31XAndYFrom0To5() {
        RainOwed x = withLaw("si0;fo9w6n6v3;fo9w6n6v2", "y:0");
        for (int n = 0; n <= 5; n++) {
            due("the first", 18 - n, x.game(0, 1, 0, n, 5 - n, 0));
            due("the second", 12 - 5 + n, x.game(0, 1, 0, n, 5 - n, 1));
        }
        due("the other way round", 12 - 2, x.game(1, 0, 0, 2, 1, 0));
    }

    static void promise31TheLastOfSix() {
        RainOwed x = withLaw("si0;fo9w6n6v3;f;f;f;f;fo9w6n6v2", "y:0");
        due("the first of the game", 12 - 4, x.game(5, 0, 0, 4, 1, 0));
        due("the second of the game", 18 - 1, x.game(5, 0, 0, 4, 1, 1));
        due("its rest", 0, x.rests(5, 0, 0, 0));
    }

    static void promise31NoMoreThanIsOwed() {
        RainOwed x = withLaw("si0d20;fo3w0n20v1;fo3w0n20v1;f", "y:o");
        due("all of three", 10 - 3, x.game(0, 1, 30, 3, 0, 0));
        due("no more than three", 10 - 5, x.game(0, 1, 30, 5, 0, 0));
        due("both", 10 - 5, x.game(0, 1, 30, 5, 5, 1));
        due("of nothing", 18 - 2, withLaw("si0;fw6;f", "y:o").game(0, 1, 0, 2, 0, 0));
    }

    static void promise31DrownedHasNothing() {
        RainOwed x = withLaw("si0d10;fo9;fo9", "y:0");
        due("nothing", 0, x.game(0, 1, 20, 0, 0, 0));
        due("nothing less 5", -5, x.game(0, 1, 20, 5, 0, 0));
        due("nothing less 4", -4, x.game(0, 1, 20, 0, 4, 1));
        due("not by 19", 18 - 5, x.game(0, 1, 19, 5, 0, 0));
    }

    static void promise31NoMist() {
        RainOwed x = withLaw("si0;fo9w3n6v3;fo9w3n6v3", "y:0");
        due("water as it is", 9 - 1, x.game(0, 1, 0, 1, 1, 0));
    }

    static void promise31NotHeldByTheCoinsOneCanHave() {
        RainOwed x = after(withLaw("si0d99;fn20w30v9c99;fn0", "y:0"), 5, 40);
        due("what it bears", 180, x.game(0, 1, 40, 0, 0, 0));
    }

    static void promise32NoSuchFields() {
        for (int f : NO_FIELDS) {
            refused("one " + f, Edges::busy, NONE, x -> x.rests(f, 1, 9, NONE));
            refused("other " + f, Edges::busy, NONE, x -> x.rests(0, f, 9, NONE));
        }
    }

    static void promise32Alike() {
        for (int f = 0; f < 3; f++) {
            int alike = f;
            refused("field " + f, Edges::busy, NONE, x -> x.rests(alike, alike, 9, NONE));
        }
    }

    static void promise32RainOutOfBounds() {
        for (int n : NO_RAIN) {
            refused("rain " + n, Edges::busy, NONE, x -> x.rests(0, 1, n, NONE));
        }
    }

    static void promise32NoSuchOne() {
        RainOwed x = withLaw("si0;fo9;fo9", "y:0");
        due("one", 1, x.rests(0, 1, 0, NONE));
        due("none forgives", 0, x.rests(0, 1, 0, 0));
        for (int i : new int[] {-2, 1, LEAST_INT, MOST_INT}) {
            due("i " + i, NONE, x.rests(0, 1, 0, i));
        }
    }

    static void promise32FiveIsTheMost() {
        RainOwed x = withLaw("si0d7;fo9n9w9v9;f", "y:o>4?20;y:0");
        due("one", 1, x.rests(0, 1, 8, NONE));
        due("five", 50, x.rests(0, 1, 8, 0));
        due("the other way round", 5, x.rests(1, 0, 8, 0));
        RainOwed y = withLaw("si0d7;fo9n9w9v9;f", "y:o>3?20;y:0");
        due("six would be needed", 0, y.rests(0, 1, 8, 0));
    }

    static void promise32AsMuchByAnotherIsARestToo() {
        RainOwed x = withLaw("si0d7;fo2n9w9v1;f", "y:o=0?0;y:o=1?20;y:20");
        due("drowned: 0", 0, x.game(0, 1, 8, 0, 0, 0));
        due("not drowned: 9 less 2", 7, x.game(0, 1, 8, 2, 0, 0));
        due("one", 1, x.rests(0, 1, 8, NONE));
        RainOwed y = withLaw("si0d7;fo2n2w9v1;f", "y:o=0?0;y:o=1?20;y:20");
        due("2 less 2", 0, y.game(0, 1, 8, 2, 0, 0));
        due("two", 2, y.rests(0, 1, 8, NONE));
        due("forgives none", 0, y.rests(0, 1, 8, 0));
        due("forgives two", 20, y.rests(0, 1, 8, 1));
        RainOwed z = withLaw("si0d7;fo2n1w9v1;f", "y:o=0?0;y:o=1?20;y:20");
        due("1 less 2 is less than 0", 1, z.rests(0, 1, 8, NONE));
        due("forgives none", 0, z.rests(0, 1, 8, 0));
    }

    static void promise32IsApart() {
        RainOwed x = withLaw("si0;fo9;fo9", "y:0");
        x.rests(0, 1, 50, NONE);
        field(x, 0, 9);
        field(x, 1, 9);
        due("no act", 0, x.count(10));
    }
}
