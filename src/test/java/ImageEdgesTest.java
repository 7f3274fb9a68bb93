/** Edges of promises 43 to 45: image, back, count. */
public final class ImageEdgesTest extends Edges {
    public static void main(String[] args) {
        run(ImageEdgesTest.class, 43, 44, 45);
    }

    static void promise43NoPlain() {
        refused("image", RainOwed::new, NONE, RainOwed::image);
    }

    static void promise43InTheFirstAndTheLastYear() {
        due("0", 0, plain("f;f").image());
        due("999", 999, inYear(plain("f;f"), 999).image());
    }

    static void promise43InsteadOfTheOneAhead() {
        RainOwed x = plain("f;f");
        due("one", 0, x.image());
        after(x, 3, 10);
        due("another", 3, x.image());
        after(x, 2, 10);
        due("the latest", 3, x.back());
        due("again", 3, x.back());
    }

    static void promise43IsNoActAndLeavesThem() {
        RainOwed x = after(plain("f;f"), 3, 10);
        x.image();
        due("acts", 3, x.count(10));
        due("undone", 2, x.undo());
        due("the year", 2, x.count(5));
    }

    static void promise44NoImage() {
        refused("none", () -> after(plain("f;fo3"), 3, 10), NONE, RainOwed::back);
        refused("no plain", RainOwed::new, NONE, RainOwed::back);
    }

    static void promise44AnImageOfAnotherPlain() {
        RainOwed x = plain("f;fo3");
        x.image();
        Checks.tell(x, "f;fo3").text(0);
        x.year(10);
        due("gone", NONE, x.back());
        due("nothing changes", 1, x.count(5));
        due("nothing changes", 1, x.count(10));
    }

    static void promise44AWrongPlainLeavesTheImage() {
        RainOwed x = plain("f;fo3");
        x.image();
        due("a fault", NONE, Checks.tell(x, "f").text(0));
        due("still there", 0, x.back());
    }

    static void promise44AllIsSoAgain() {
        RainOwed x = plain("si2p3;fo10;fo5n8w0c40;f");
        x.year(20);
        x.price(9);
        x.image();
        int[][] was = new int[3][5];
        for (int f = 0; f < 3; f++) {
            for (int what = 0; what < 5; what++) {
                was[f][what] = x.field(f, what);
            }
        }
        x.year(50);
        x.hedge(0);
        x.can(1);
        x.price(1);
        x.sell(0, 1, 1);
        x.forgive(0, 1);
        due("back", 1, x.back());
        for (int f = 0; f < 3; f++) {
            field(x, f, was[f]);
        }
        due("price", 9, x.rule(2));
        due("the year", 1, x.count(5));
        due("the log", 1, x.count(9));
        due("the log", 20, x.log(0, 0));
        due("no more of it", NONE, x.log(1, 0));
    }

    static void promise44NoActCanBeUndoneThen() {
        RainOwed x = after(plain("f;f"), 3, 10);
        x.image();
        after(x, 45, 10);
        x.back();
        due("none", 0, x.count(10));
        due("none", NONE, x.undo());
        x.year(7);
        due("one", 1, x.count(10));
        due("undone", 0, x.undo());
        due("as in the image", 3, x.count(5));
        due("its log", 10, x.log(0, 0));
        due("none", NONE, x.undo());
    }

    static void promise44AllOfTheLogIsSoAgain() {
        RainOwed x = withLaw("si0d10;f;f", "y:0");
        due("all drown", 0, x.year(20));
        due("nobody does", 36, x.year(10));
        x.image();
        x.undo();
        x.undo();
        x.year(0);
        x.year(21);
        due("back", 2, x.back());
        int[][] log = {{10, 0, 36}, {20, 3, 0}};
        for (int i = 0; i < 2; i++) {
            for (int what = 0; what < 3; what++) {
                due("log " + i, log[i][what], x.log(i, what));
            }
        }
    }

    static void promise44ALogThatIsFull() {
        RainOwed x = plain("f;f");
        for (int k = 0; k < 80; k++) {
            x.year(k);
        }
        x.image();
        x.years(60, 1);
        x.years(60, 2);
        due("back", 80, x.back());
        due("60", 60, x.count(9));
        for (int i = 0; i < 60; i++) {
            due("entry " + i, 79 - i, x.log(i, 0));
        }
        due("no 61st", NONE, x.log(60, 0));
    }

    static void promise44FromAYearAheadOfTheImage() {
        RainOwed x = after(plain("f;f"), 3, 10);
        x.image();
        x.undo();
        x.undo();
        due("the year", 1, x.count(5));
        due("back", 3, x.back());
        due("the log", 3, x.count(9));
    }

    static void promise44LawHeresyAndFellStay() {
        RainOwed x = withLaw("f;f", "y:1");
        x.heresy(3);
        x.image();
        x.law(NONE);
        x.heresy(5);
        x.fell(0, 1, 1, true);
        x.back();
        due("no law holds", NONE, x.count(4));
        due("heresy", 5, x.count(7));
        due("fell", 1, x.count(8));
    }

    static void promise44FromTheLastYear() {
        RainOwed x = plain("f;f");
        x.image();
        inYear(x, 999);
        due("back", 0, x.back());
        due("years go by again", 30, x.year(0));
        due("no log but of this one", 1, x.count(9));
    }

    static void promise45Others() {
        for (int what : new int[] {-1, 11, LEAST_INT, MOST_INT}) {
            refused("count(" + what + ")", Edges::busy, HIDDEN, x -> x.count(what));
            due("no plain", HIDDEN, new RainOwed().count(what));
        }
    }

    static void promise45AtFirst() {
        int[] counts = {0, 0, 0, 0, NONE, 0, 0, 0, 0, 0, 0};
        for (int what = 0; what < counts.length; what++) {
            due("count(" + what + ")", counts[what], new RainOwed().count(what));
        }
    }

    static void promise45TheMostOfEach() {
        RainOwed x = new RainOwed();
        for (int k = 0; k < 4; k++) {
            Checks.law(x, "y:0");
            Checks.plan(x, "y00");
        }
        Checks.tell(x, "si0d99;fn20w30v9c99;f;f;f;f;f").text(0);
        x.heresy(9);
        for (int k = 0; k < 10; k++) {
            x.fell(0, 1, 1, true);
        }
        inYear(x, 999);
        Checks.tell(x, " ".repeat(240));
        int[] counts = {6, 4, 4, 240, 3, 999, 6 * 999, 9, 10, 60, 40};
        for (int what = 0; what < counts.length; what++) {
            due("count(" + what + ")", counts[what], x.count(what));
        }
    }

    static void promise45CoinsOfAll() {
        due("none", 0, plain("fc0;fc0").count(6));
        due("594", 594, plain("fc99;fc99;fc99;fc99;fc99;fc99").count(6));
        due("of two", 3, plain("fc1;fc2").count(6));
    }

    static void promise45FieldsThatAreGoneHaveNoCoins() {
        RainOwed x = plain("fc99;fc99;fc99;fc99;fc99;fc99");
        Checks.tell(x, "fc1;fc2").text(0);
        due("of two", 3, x.count(6));
        due("owed to two", 0, x.all(4));
    }
}
