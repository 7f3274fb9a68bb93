/** Edges of promises 4 and 5 for a plain, and of promises 6 and 7. */
public final class PlainEdgesTest extends Edges {
    public static void main(String[] args) {
        run(PlainEdgesTest.class, 4, 5, 6, 7);
    }

    private static void fault(String text, int want) {
        RainOwed x = Checks.tell(new RainOwed(), text);
        due("fault(0) of '" + text + "'", want, x.fault(0));
        due("the tape stays", text.length(), x.count(3));
        due("text(0) takes '" + text + "'", want == NONE, x.text(0) != NONE);
    }

    /** A rule or an item by its letter: least, most, what it is without, and which it is. */
    private static void bounds(String letter, int least, int most, int without, int which) {
        boolean ofRules = "idp".contains(letter);
        String head = ofRules ? "s" + letter : "f;f" + letter;
        String tail = ofRules ? ";f;f" : ";f";
        for (int n = 0; n <= 99; n++) {
            String digits = "" + n;
            boolean fits = n >= least && n <= most;
            fault(head + digits + tail, fits ? NONE : head.length() + digits.length() - 1);
            if (fits) {
                due(letter + n, n, told(plain(head + digits + tail), ofRules, which));
            }
        }
        due(letter + " without", without, told(plain("s;f;f"), ofRules, which));
        fault(head + "000" + tail, head.length() + 2);
        fault(head + "999" + tail, head.length() + 2);
        fault(head + tail, head.length());
        fault(head + "1" + letter + "1" + tail, head.length() + 1);
    }

    private static int told(RainOwed x, boolean ofRules, int which) {
        return ofRules ? x.rule(which) : x.field(1, which);
    }

    static void promise4InterestFrom0To9() {
        bounds("i", 0, 9, 1, 0);
    }

    static void promise4DrowningFrom1To99() {
        bounds("d", 1, 99, 30, 1);
    }

    static void promise4PriceFrom0To30() {
        bounds("p", 0, 30, 2, 2);
    }

    static void promise4OwedFrom0To99() {
        bounds("o", 0, 99, 0, 0);
    }

    static void promise4NeedsFrom0To20() {
        bounds("n", 0, 20, 6, 1);
    }

    static void promise4WaterFrom0To30() {
        bounds("w", 0, 30, 5, 2);
    }

    static void promise4ValueFrom0To9() {
        bounds("v", 0, 9, 3, 3);
    }

    static void promise4CoinsFrom0To99() {
        bounds("c", 0, 99, 20, 4);
    }

    static void promise4WhatIsNotToldIsAsWithoutWhateverStandsAhead() {
        RainOwed x = plain("fo9n9w9v9c9;s;f");
        int[] rules = {1, 30, 2};
        for (int what = 0; what < 3; what++) {
            due("rule " + what, rules[what], x.rule(what));
        }
        field(x, 0, 9, 9, 9, 9, 9);
        field(x, 1, 0, 6, 5, 3, 20);
        RainOwed y = plain("si9d9p9;f;f");
        field(y, 0, 0, 6, 5, 3, 20);
        Checks.tell(y, "f;f").text(0);
        due("nothing of the plain ahead", 1, y.rule(0));
        RainOwed z = Checks.tell(new RainOwed(), "si9d9p9;fo9");
        z.text(0);
        Checks.tell(z, "f;f").text(0);
        due("nothing of what was refused", 30, z.rule(1));
        field(z, 0, 0, 6, 5, 3, 20);
    }

    static void promise4ANumberMayBeginWithZero() {
        fault("si09d01p00;fv09;fo00", NONE);
        fault("fv0;f", NONE);
    }

    static void promise4ANumberOutOfBoundsIsWrongAtItsLastDigit() {
        fault("sd0;f;f", 2);
        fault("sd00;f;f", 3);
        fault("sd0", 2);
        fault("si10", 3);
        fault("fv10", 3);
        fault("fv10o5;f", 3);
        fault("f;f n 21", 7);
    }

    static void promise4AThirdDigitIsWrongItselfWhateverStandsAhead() {
        fault("fv100;f", 4);
        fault("fv990;f", 4);
        fault("fo000;f", 4);
        fault("sd000;f;f", 4);
        fault("fo1234;f", 4);
    }

    static void promise4ALetterThatWasThere() {
        fault("fo1o1;f", 3);
        fault("fo1n1w1v1c1o", 11);
        fault("f;fv1o1v2", 7);
        fault("si1d1p1i1;f;f", 7);
        fault("fo1;fo1", NONE);
    }

    static void promise4ALetterOfTheOtherSort() {
        fault("fi1;f", 1);
        fault("fd1;f", 1);
        fault("fp1;f", 1);
        for (String letter : new String[] {"o", "n", "w", "v", "c"}) {
            fault("s" + letter + "1;f;f", 1);
        }
        fault("fy1;f", 1);
    }

    static void promise4CapitalsAreOtherSigns() {
        fault("F;f", 0);
        fault("f;fO1", 3);
    }

    static void promise4FewerThanTwoFields() {
        fault("", 0);
        fault("f", 1);
        fault("s", 1);
        fault("fo1", 3);
        fault("f;s", 3);
        fault("s;f", 3);
        fault("f;si1", 5);
        fault("f  ", 3);
    }

    static void promise4TwoFieldsAndSix() {
        fault("f;f", NONE);
        fault("s;f;f", NONE);
        fault("f;s;f", NONE);
        fault("f;f;s", NONE);
        fault("f;f;f;f;f;f", NONE);
        fault("s;f;f;f;f;f;f", NONE);
        fault("f;f;f;s;f;f;f", NONE);
        fault("f;f;f;f;f;f;s", NONE);
    }

    static void promise4ASeventhField() {
        fault("f;f;f;f;f;f;f", 12);
        fault("s;f;f;f;f;f;f;f", 14);
        fault("f;f;f;s;f;f;f;f", 14);
        fault("f;f;f;f;f;f; f;s", 13);
        fault("f;f;f;f;f;f;s;f", 14);
    }

    static void promise4ASecondS() {
        fault("s;s;f;f", 2);
        fault("s;f;f;s", 6);
        fault("f;s;f;f;f;f;f; s", 15);
        fault("f;f;f;f;f;f;s;s", 14);
    }

    static void promise4AClauseMustStandBehindEachSemicolon() {
        fault(";f;f", 0);
        fault("f;;f", 2);
        fault("f;f;", 4);
        fault("f;f; ", 5);
        fault("s;f;f;f;f;f;f;", 14);
    }

    static void promise4ClausesNeedASemicolon() {
        fault("ff", 1);
        fault("f f", 2);
        fault("fo1f", 3);
        fault("sf;f", 1);
        fault("f,f", 1);
    }

    static void promise4BlanksBetweenAllSigns() {
        fault("  s  i 1  d 2 p 3 ; f ; f  o 1 n 2 w 3 v 4 c 5  ", NONE);
    }

    static void promise4NoBlanksWithinNumbers() {
        fault("fo1 2;f", 4);
        fault("sd1 0;f;f", 4);
        fault("sd0 1;f;f", 2);
    }

    static void promise4OnlyByte32IsABlank() {
        fault("f;f\t", 3);
        fault("f\n;f", 1);
        fault("\u00a0f;f", 0);
        fault("f;f\u0001", 3);
    }

    static void promise4BytesAbove127AreNoSigns() {
        fault("\u00e6;f", 0);
        fault("f;fo\u00b1", 4);
    }

    static void promise4AFullTape() {
        fault("f;f" + " ".repeat(237), NONE);
        fault(" ".repeat(240), 240);
        fault(" ".repeat(237) + "f;f", NONE);
        fault(" ".repeat(238) + "f;", 240);
    }

    static void promise4NoSuchSort() {
        for (int sort : new int[] {-1, 3, LEAST_INT, MOST_INT}) {
            due("fault(" + sort + ") of none", -2, new RainOwed().fault(sort));
            refused("fault(" + sort + ")", Edges::busy, -2, x -> x.fault(sort));
        }
    }

    static void promise4LookingForAFaultChangesNothing() {
        refused("as a plain", Edges::busy, 0, x -> x.fault(0));
        refused("as a law", Edges::busy, 0, x -> x.fault(1));
        refused("as a plan", Edges::busy, NONE, x -> x.fault(2));
    }

    static void promise5NoSuchSort() {
        for (int sort : new int[] {-1, 3, LEAST_INT, MOST_INT}) {
            refused("text(" + sort + ")", Edges::busy, NONE, x -> x.text(sort));
        }
    }

    static void promise5AFaultIsRefused() {
        refused("as a plain", Edges::busy, NONE, x -> x.text(0));
        refused("as a law", Edges::busy, NONE, x -> x.text(1));
        refused("an empty tape as a plain", RainOwed::new, NONE, x -> x.text(0));
        refused("a wrong plain beside a right one", () -> Checks.tell(busy(), "f;fv10"), NONE, x -> x.text(0));
        refused("too few fields", () -> Checks.tell(busy(), "fo5"), NONE, x -> x.text(0));
        refused("too many fields", () -> Checks.tell(busy(), "f;f;f;f;f;f;f"), NONE, x -> x.text(0));
    }

    static void promise5TheTapeIsEmptyThen() {
        RainOwed x = Checks.tell(new RainOwed(), "f;f");
        due("fields", 2, x.text(0));
        due("bytes", 0, x.count(3));
        due("not twice", NONE, x.text(0));
    }

    static void promise5TheNumberOfFields() {
        due("two", 2, Checks.tell(new RainOwed(), "f;f").text(0));
        due("six", 6, Checks.tell(new RainOwed(), "f;f;s;f;f;f;f").text(0));
    }

    static void promise5AnotherPlainHasNothingOfTheOneAhead() {
        RainOwed x = Checks.tell(busy(), "f;fo7");
        due("fields", 2, x.text(0));
        int[] rules = {1, 30, 2};
        for (int what = 0; what < 3; what++) {
            due("rule " + what, rules[what], x.rule(what));
        }
        field(x, 0, 0, 6, 5, 3, 20);
        field(x, 1, 7, 6, 5, 3, 20);
        refusedField(x, 2, 0);
        due("the year", 0, x.count(5));
        due("no log", 0, x.count(9));
        due("no log", NONE, x.log(0, 0));
        due("nothing fell", 0, x.count(8));
        due("all debts", 100, x.debts(0, NONE));
        due("no act", 0, x.count(10));
        due("no act", NONE, x.undo());
        due("no image", NONE, x.back());
    }

    static void promise5AnotherPlainLeavesLawsWhichHoldsPlansAndHeresy() {
        RainOwed x = Checks.tell(busy(), "f;fo7");
        x.text(0);
        due("laws", 2, x.count(1));
        due("plans", 2, x.count(2));
        due("which holds", 1, x.count(4));
        due("heresy", 4, x.count(7));
        due("it holds: w + 1", 26, x.falls(1, 40));
        due("a plan", 3, x.step(1, 1, 0));
    }

    static void promise5TheSamePlainAgainIsAnotherOne() {
        RainOwed x = after(plain("f;fo7"), 3, 20);
        x.image();
        Checks.tell(x, "f;fo7").text(0);
        due("the year", 0, x.count(5));
        due("owed", 7, x.field(1, 0));
        due("no image of this one", NONE, x.back());
        due("an image", 0, x.image());
        due("of this one", 0, x.back());
    }

    static void promise5ALawOrAPlanLeavesThePlain() {
        RainOwed x = after(plain("f;fo7"), 2, 20);
        x.image();
        x.fell(0, 1, 1, true);
        Checks.tell(x, "y:1").text(1);
        Checks.tell(x, "y01").text(2);
        due("fields", 2, x.count(0));
        due("the year", 2, x.count(5));
        due("acts", 2, x.count(10));
        due("fell", 1, x.count(8));
        due("none holds", NONE, x.count(4));
        due("the image", 2, x.back());
    }

    static void promise6NoSuchRule() {
        for (int what : new int[] {-1, 3, LEAST_INT, MOST_INT}) {
            refused("rule(" + what + ")", Edges::busy, NONE, x -> x.rule(what));
        }
    }

    static void promise6NoPlain() {
        for (int what = 0; what < 3; what++) {
            due("rule(" + what + ")", NONE, new RainOwed().rule(what));
        }
    }

    static void promise6ThePriceIsAsItIsNow() {
        RainOwed x = plain("sp9;f;f");
        due("as told", 9, x.rule(2));
        x.price(30);
        due("as set", 30, x.rule(2));
        x.undo();
        due("as undone", 9, x.rule(2));
        x.price(0);
        due("none", 0, x.rule(2));
    }

    static void promise7NoSuchField() {
        RainOwed two = plain("f;f");
        RainOwed six = plain("f;f;f;f;f;fo8");
        for (int what = 0; what < 5; what++) {
            for (int field : new int[] {-1, 2, 6, LEAST_INT, MOST_INT}) {
                refusedField(two, field, what);
            }
            refusedField(six, 6, what);
            refusedField(new RainOwed(), 0, what);
        }
        due("the sixth", 8, six.field(5, 0));
    }

    static void promise7FieldsOfAPlainThatIsGoneAreGone() {
        RainOwed x = plain("f;f;f;f;f;fo8");
        Checks.tell(x, "f;f").text(0);
        for (int field = 2; field < 6; field++) {
            refusedField(x, field, 0);
        }
    }

    static void promise7NoSuchWhat() {
        RainOwed x = plain("f;f");
        for (int what : new int[] {-1, 5, LEAST_INT, MOST_INT}) {
            refusedField(x, 0, what);
            refusedField(x, 1, what);
        }
    }
}
