/** Edges of promises 4, 5 and 8 for a law, and of what a law is worth (promise 10). */
public final class LawEdgesTest extends Edges {
    public static void main(String[] args) {
        run(LawEdgesTest.class, 4, 5, 8, 10);
    }

    private static void fault(String text, int want) {
        RainOwed x = Checks.tell(new RainOwed(), text);
        due("fault(1) of '" + text + "'", want, x.fault(1));
        due("the tape stays", text.length(), x.count(3));
        due("text(1) takes '" + text + "'", want == NONE, x.text(1) != NONE);
    }

    /** What is paid to a field of o8 n3 w7 v5 by a share of 20 in year 0, when 21 more could fall. */
    private static void worth(String law, int want) {
        RainOwed x = withLaw("si0d99;fo8n3w7v5;f", law);
        due("worth of " + law, want, x.falls(0, 41) - 20);
    }

    /** A number that a law works out, told by what is paid for its being that. */
    private static void number(String sum, int want) {
        String told = want < 0 ? "[0-[" + split(-want) + "]]" : "[" + split(want) + "]";
        worth("y:" + sum + "=" + told + "?17;y:3", 17);
        worth("y:" + sum + "<" + told + "?17;y:3", 3);
        worth("y:" + sum + ">" + told + "?17;y:3", 3);
    }

    /** Numbers of a law have four digits at most. */
    private static String split(int n) {
        return n < 10000 ? "" + n : n / 1000 + "*1000+" + n % 1000;
    }

    static void promise4ALawHasOneClauseAtLeast() {
        fault("", 0);
        fault("   ", 3);
        fault(";", 0);
        fault("y:1", NONE);
        fault("y:1;y:2", NONE);
    }

    static void promise4AClauseMustStandBehindEachSemicolon() {
        fault("y:1;", 4);
        fault("y:1;;y:1", 4);
        fault("y:1; ", 5);
    }

    static void promise4ALawEndsTooEarly() {
        fault("y", 1);
        fault("y:", 2);
        fault("y:1+", 4);
        fault("y:1*", 4);
        fault("y:[1", 4);
        fault("y:(1=1", 6);
        fault("y:(1=1)", 7);
        fault("y:!", 3);
        fault("y:1=", 4);
        fault("y:1=1", 5);
        fault("y:1=1&", 6);
        fault("y:1=1|", 6);
        fault("y:1=1?", 6);
    }

    static void promise4AClauseBeginsWithYAndAColon() {
        fault("z:1", 0);
        fault("1", 0);
        fault("y1", 1);
        fault("y;", 1);
        fault("y:1;1", 4);
    }

    static void promise4ANumberHasOneToFourDigits() {
        fault("y:0", NONE);
        fault("y:9999", NONE);
        fault("y:0000", NONE);
        fault("y:12345", 6);
        fault("y:00000", 6);
        fault("y:1+12345", 8);
        fault("y:123 4", 6);
    }

    static void promise4TheLettersOfALaw() {
        for (char letter : "onwvst".toCharArray()) {
            fault("y:" + letter, NONE);
        }
        for (char letter : "cidpyfabO".toCharArray()) {
            fault("y:" + letter, 2);
        }
        fault("y:oo", 3);
        fault("y:1o", 3);
        fault("y:o1", 3);
    }

    static void promise4SixWithinOneAnother() {
        fault("y:[[[[[[1]]]]]]", NONE);
        fault("y:((((((1=1))))))?1", NONE);
        fault("y:!!!!!!1=1?1", NONE);
        fault("y:(!(!([1]=1)))?1", NONE);
        fault("y:(!(!(1=[1]))) ? [[[[[[1]]]]]]", NONE);
    }

    static void promise4ASeventhWithinOneAnother() {
        fault("y:[[[[[[[1]]]]]]]", 8);
        fault("y:(((((((1=1)))))))?1", 8);
        fault("y:!!!!!!!1=1?1", 8);
        fault("y:!!!!!!(1=1)?1", 8);
        fault("y:!!!!!![1]=1?1", 8);
        fault("y:(((!!!([1]", 8);
        fault("y:((((((1=[1", 10);
        fault("y:((((((1+1=1*[1", 14);
    }

    static void promise4WhatIsClosedIsNotWithin() {
        fault("y:[1]+[1]+[1]+[1]+[1]+[1]+[1]+[[[[[[1]]]]]]", NONE);
        fault("y:(1=1)&(1=1)&(1=1)&(1=1)&(1=1)&(1=1)&((((((1=1))))))?1", NONE);
        fault("y:!1=1&!1=1|!1=1&!1=1|!1=1&!1=1|!!!!!!1=1?1", NONE);
        fault("y:(!1=1|!1=1)&(!1=1|!(!(1=[1])))?1", NONE);
    }

    static void promise4ACloseOfTheOtherSortOrOfNone() {
        fault("y:[1)", 4);
        fault("y:(1=1]", 6);
        fault("y:1]", 3);
        fault("y:1=1)", 5);
        fault("y:[]", 3);
        fault("y:()", 3);
    }

    static void promise4WhatBeginsWithNotOrAParenthesisIsACondition() {
        fault("y:(1)", 4);
        fault("y:(1=1);", 7);
        fault("y:(1=1)+1", 7);
        fault("y:(1=1)=1", 7);
        fault("y:!1", 4);
        fault("y:!1=1;", 6);
        fault("y:!(1=1)?1", NONE);
    }

    static void promise4OneConditionAtMost() {
        fault("y:1=1?1?1", 7);
        fault("y:1=1?1=1", 7);
        fault("y:1=1?(1)", 6);
        fault("y:1=1?!1", 6);
        fault("y:?1", 2);
        fault("y:1?1", 3);
    }

    static void promise4OneComparisonInAUnit() {
        fault("y:1=1=1?1", 5);
        fault("y:1<=1?1", 4);
        fault("y:1=1&1?1", 7);
        fault("y:1&1=1?1", 3);
        fault("y:1=1&&1=1?1", 6);
    }

    static void promise4SignsNeedBothSides() {
        fault("y:-1", 2);
        fault("y:+1", 2);
        fault("y:1++1", 4);
        fault("y:1*-1", 4);
        fault("y:1//1", 4);
        fault("y:[+1]", 3);
    }

    static void promise4SomethingMustStandBehindEachSign() {
        for (String sign : new String[] {"|", "&", "=", "<", ">", "+", "-", "*", "/"}) {
            fault("y:1=1" + ("=<>".contains(sign) ? "|1" : "") + sign + "?1", "=<>".contains(sign) ? 8 : 6);
            fault("y:1" + sign + ";y:1", "|&".contains(sign) ? 3 : 4);
        }
        fault("y:!?1", 3);
        fault("y:(?1", 3);
        fault("y:[;", 3);
    }

    static void promise4BlanksBetweenAllSigns() {
        fault("  y : ! ( o = 1 & n < 2 ) | w > 3 ? [ 1 + 2 ] * 3 - 4 / 5 ; y : 1234  ", NONE);
        fault("y:12 34", 5);
        fault("y:1=1?1 1", 8);
    }

    static void promise4AFullTapeOfALaw() {
        String ones = "+1".repeat(118);
        fault("y:o" + ones + " ", NONE);
        fault("y:10" + ones, NONE);
        fault("y:" + "1=1&".repeat(58) + "1=1?12", NONE);
        fault("y:1" + ones + "+", 240);
        fault("y:1;".repeat(59) + "y:12", NONE);
    }

    static void promise5ALawsNumberAndAFifthLaw() {
        RainOwed x = new RainOwed();
        for (int k = 0; k < 4; k++) {
            due("law", k, Checks.tell(x, "y:" + k).text(1));
            due("laws", k + 1, x.count(1));
        }
        due("a fifth", NONE, Checks.tell(x, "y:4").text(1));
        due("laws", 4, x.count(1));
        due("the tape stays", 3, x.count(3));
        due("it has no fault", NONE, x.fault(1));
        due("a plain can be told yet", 2, Checks.tell(x, "f;f").text(0));
        due("a plan can be told yet", 0, Checks.tell(x, "y00").text(2));
    }

    static void promise5AFifthLawChangesNothing() {
        refused("a fifth", () -> {
            RainOwed x = busy();
            Checks.tell(x, "y:3").text(1);
            Checks.tell(x, "y:4").text(1);
            return Checks.tell(x, "y:5");
        }, NONE, x -> x.text(1));
    }

    static void promise5AWrongLawIsRefused() {
        refused("no law", () -> Checks.tell(busy(), "y:1;"), NONE, x -> x.text(1));
        refused("a plain", () -> Checks.tell(busy(), "f;f"), NONE, x -> x.text(1));
        refused("an empty tape", RainOwed::new, NONE, x -> x.text(1));
    }

    static void promise5ALawHoldsNotByBeingTold() {
        RainOwed x = plain("fo8;f");
        Checks.tell(x, "y:0").text(1);
        due("none", NONE, x.count(4));
        due("half of what is owed", 24, x.falls(0, 40));
    }

    static void promise8NoneHoldsAtFirst() {
        due("count(4)", NONE, new RainOwed().count(4));
    }

    static void promise8NoSuchLaw() {
        for (int law : new int[] {-2, 2, 4, LEAST_INT, MOST_INT}) {
            refused("law(" + law + ")", Edges::busy, 0, x -> x.law(law) ? 1 : 0);
        }
        refused("the first of none", RainOwed::new, 0, x -> x.law(0) ? 1 : 0);
    }

    static void promise8TheFirstAndTheLastOfFour() {
        RainOwed x = plain("f;f");
        for (int k = 0; k < 4; k++) {
            Checks.tell(x, "y:1" + k).text(1);
        }
        for (int k = 3; k >= 0; k--) {
            due("law", true, x.law(k));
            due("holds", k, x.count(4));
            due("pays", 20 + 10 + k, x.falls(0, 40));
        }
        due("a fifth", false, x.law(4));
        due("the first still", 0, x.count(4));
    }

    static void promise8NoneAgain() {
        RainOwed x = withLaw("fo8;f", "y:1");
        due("pays 1", 21, x.falls(0, 40));
        due("none", true, x.law(NONE));
        due("none holds", NONE, x.count(4));
        due("pays half", 24, x.falls(0, 40));
        due("none without any law", true, new RainOwed().law(NONE));
    }

    static void promise8TheOneThatHolds() {
        RainOwed x = withLaw("f;f", "y:1");
        due("again", true, x.law(0));
        due("still", 0, x.count(4));
    }

    static void promise8IsNoAct() {
        RainOwed x = withLaw("f;f", "y:1");
        due("acts", 0, x.count(10));
        x.year(3);
        x.law(NONE);
        x.undo();
        due("not undone", NONE, x.count(4));
    }

    static void promise10NumbersOfALawHaveAMillionAtMost() {
        number("9999*101", 1000000);
        number("9999*9999", 1000000);
        number("9999*100+101", 1000000);
        number("9999*100+100", 1000000);
        number("9999*100+99", 999999);
        number("9999*9999*9999*9999", 1000000);
        number("0-[0-9999*100]-[0-1000]", 1000000);
    }

    static void promise10NumbersOfALawHaveMinusAMillionAtLeast() {
        number("[0-9999]*101", -1000000);
        number("[0-9999]*9999", -1000000);
        number("0-9999*100-101", -1000000);
        number("0-9999*100-100", -1000000);
        number("0-9999*100-99", -999999);
        number("9999*9999*[0-9999]*9999", -1000000);
    }

    static void promise10ANumberIsHeldBehindEachSign() {
        number("9999*9999-1000", 999000);
        number("9999*9999/9999", 100);
        number("9999*100+9999-9999", 990001);
        number("[0-9999]*9999+1000", -999000);
        number("0-9999*9999+1", -999999);
    }

    static void promise10DivisionCutsTowards0() {
        number("7/2", 3);
        number("[0-7]/2", -3);
        number("7/[0-2]", -3);
        number("[0-7]/[0-2]", 3);
        number("1/2", 0);
        number("[0-1]/2", 0);
    }

    static void promise10DivisionBy0Gives0() {
        number("5/0", 0);
        number("0/0", 0);
        number("[0-5]/0", 0);
        number("5/[o-8]+1", 1);
        number("5/0*3", 0);
    }

    static void promise10ASumGoesFromLeftToRight() {
        number("9-4-3", 2);
        number("24/4/3", 2);
        number("7/2*2", 6);
        number("2+3*4-1", 13);
    }

    static void promise10TheFirstClauseThatHolds() {
        worth("y:o=8?1;y:o=8?2", 1);
        worth("y:1;y:2", 1);
        worth("y:o=7?1;y:o=8?2;y:3", 2);
    }

    static void promise10NoClauseHolds() {
        worth("y:o=7?9", 0);
        worth("y:o=7?9;y:o<8?9;y:o>8?9", 0);
    }

    static void promise10ComparisonsAtTheirEdge() {
        worth("y:o<8?1;y:2", 2);
        worth("y:o<9?1;y:2", 1);
        worth("y:o>8?1;y:2", 2);
        worth("y:o>7?1;y:2", 1);
        worth("y:o=8?1;y:2", 1);
        worth("y:o=9?1;y:2", 2);
    }

    static void promise10AndBindsMoreThanOr() {
        worth("y:1=1|1=2&1=2?1;y:2", 1);
        worth("y:1=2&1=2|1=1?1;y:2", 1);
        worth("y:(1=1|1=2)&1=2?1;y:2", 2);
        worth("y:!1=1|1=1?1;y:2", 1);
        worth("y:!(1=1|1=1)?1;y:2", 2);
    }

    static void promise10NotTurnsWhatIsBehindIt() {
        worth("y:!1=1?1;y:2", 2);
        worth("y:!1=2?1;y:2", 1);
        worth("y:!!1=1?1;y:2", 1);
        worth("y:!!1=2?1;y:2", 2);
        worth("y:!!!!!!1=1?1;y:2", 1);
        worth("y:1=1&!1=2?1;y:2", 1);
        worth("y:1=2|!1=1?1;y:2", 2);
        worth("y:!1=1&1=2?1;y:2", 2);
    }

    static void promise10EachLetter() {
        worth("y:o", 8);
        worth("y:n", 3);
        worth("y:w", 7);
        worth("y:v", 5);
        worth("y:s", 20);
        worth("y:t", 0);
        RainOwed x = after(withLaw("si0d99;f;f;f", "y:t"), 3, 0);
        due("the year 3", 13, x.falls(0, 30));
        due("the share of this rain", 20, withLaw("si0d99;f;f;f", "y:s").falls(0, 30));
        due("what is owed with interest", 29, withLaw("si9d99;fo10;f;f", "y:o").falls(0, 30));
    }

    static void promise10ALongLawIsWorkedOut() {
        worth("y:10" + "+1".repeat(10) + "-1".repeat(108), 0);
        worth("y:11" + "-1".repeat(59) + "+1".repeat(59), 11);
        worth("y:" + "1=1&".repeat(58) + "1=1?12", 12);
        worth("y:" + "1=2|".repeat(58) + "1=1?12", 12);
        worth("y:[[[[[[1]]]]]]+[2*[3-[4/[5+[6*[1]]]]]]", 7);
        worth("y:1+1*[1+1*[1+1*[1+1*[1+1*[1+1*[1+1*2]]]]]]", 9);
    }
}
