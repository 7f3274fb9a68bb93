/** Edges of promises 4 and 5 for a plan, and of promises 19 to 21. */
public final class PlanEdgesTest extends Edges {
    private static final String PLAIN = "si0d12p3;fo10v2;fo5n8w0v1c4;fw30c2";

    public static void main(String[] args) {
        run(PlanEdgesTest.class, 4, 5, 19, 20, 21);
    }

    private static void fault(String text, int want) {
        RainOwed x = Checks.tell(new RainOwed(), text);
        due("fault(2) of '" + text + "'", want, x.fault(2));
        due("the tape stays", text.length(), x.count(3));
        due("text(2) takes '" + text + "'", want == NONE, x.text(2) != NONE);
    }

    static void promise4APlanHasOneStepAtLeast() {
        fault("", 0);
        fault("  ", 2);
        fault(";", 0);
        fault("k0", NONE);
    }

    static void promise4SixteenSteps() {
        fault("k0" + ";k0".repeat(15), NONE);
        fault("y00" + ";y00".repeat(15), NONE);
        fault("k0" + ";k0".repeat(14) + ";m11", NONE);
    }

    static void promise4TheSemicolonAheadOfA17thStep() {
        fault("k0" + ";k0".repeat(16), 47);
        fault("k0" + ";k0".repeat(15) + ";", 47);
        fault("k0" + ";k0".repeat(15) + " ;k0", 48);
        fault("k0" + ";k0".repeat(15) + ";x", 47);
        fault("k0" + ";k0".repeat(15) + "k", 47);
    }

    static void promise4AYearHasTwoDigits() {
        fault("y00", NONE);
        fault("y99", NONE);
        fault("y", 1);
        fault("y0", 2);
        fault("y0;k0", 2);
        fault("y;k0", 1);
        fault("y100", 3);
        fault("y000", 3);
        fault("yx0", 1);
        fault("y0x", 2);
    }

    static void promise4ForgivingHasTwoDigits() {
        fault("m00", NONE);
        fault("m99", NONE);
        fault("m1", 2);
        fault("m", 1);
        fault("m1;", 2);
        fault("m123", 3);
    }

    static void promise4HedgeAndCanHaveADigit() {
        for (String letter : new String[] {"h", "k"}) {
            fault(letter + "0", NONE);
            fault(letter + "9", NONE);
            fault(letter, 1);
            fault(letter + ";", 1);
            fault(letter + "00", 2);
            fault(letter + "0 0", 3);
        }
    }

    static void promise4AStepMustStandBehindEachSemicolon() {
        fault("k0;", 3);
        fault("k0;;k0", 3);
        fault("k0; ", 4);
        fault("k0k0", 2);
        fault("k0,k0", 2);
        fault("s11", 0);
        fault("Y11", 0);
    }

    static void promise4BlanksAlsoBetweenTheDigitsOfAStep() {
        fault(" y 1 2 ; m  3  4 ; h 5 ; k 6 ", NONE);
        RainOwed x = Checks.tell(new RainOwed(), "y 1 2;m 3 4");
        x.text(2);
        due("rain", 12, x.step(0, 0, 1));
        due("field", 3, x.step(0, 1, 1));
        due("how much", 4, x.step(0, 1, 2));
    }

    static void promise4WhatIsNotThereIsNoFault() {
        fault("m99;h9;k9;h8;m00;m90", NONE);
        due("nor beside a plain", NONE, Checks.tell(plain("f;f"), "h1;h5;k2;m21;m10").fault(2));
    }

    static void promise5APlansNumberAndAFifthPlan() {
        RainOwed x = new RainOwed();
        for (int k = 0; k < 4; k++) {
            due("plan", k, Checks.tell(x, "y0" + k).text(2));
            due("plans", k + 1, x.count(2));
        }
        due("a fifth", NONE, Checks.tell(x, "y04").text(2));
        due("plans", 4, x.count(2));
        due("the tape stays", 3, x.count(3));
        due("it has no fault", NONE, x.fault(2));
        due("a plain can be told yet", 2, Checks.tell(x, "f;f").text(0));
        due("a law can be told yet", 0, Checks.tell(x, "y:0").text(1));
        for (int k = 0; k < 4; k++) {
            due("as told", k, x.step(k, 0, 1));
        }
    }

    static void promise5AFifthPlanChangesNothing() {
        refused("a fifth", () -> {
            RainOwed x = busy();
            Checks.tell(x, "k0").text(2);
            Checks.tell(x, "k1").text(2);
            return Checks.tell(x, "k2");
        }, NONE, x -> x.text(2));
    }

    static void promise5AWrongPlanIsRefused() {
        refused("no plan", () -> Checks.tell(busy(), "k0;"), NONE, x -> x.text(2));
        refused("a plain", () -> Checks.tell(busy(), "f;f"), NONE, x -> x.text(2));
        refused("an empty tape", RainOwed::new, NONE, x -> x.text(2));
    }

    static void promise19TheFirstAndTheLastOfSixteen() {
        RainOwed x = new RainOwed();
        Checks.plan(x, "y99" + ";h0".repeat(14) + ";m89");
        int[] first = {0, 99, NONE};
        int[] last = {1, 8, 9};
        for (int what = 0; what < 3; what++) {
            due("the first", first[what], x.step(0, 0, what));
            due("the last", last[what], x.step(0, 15, what));
        }
        due("a 17th", HIDDEN, x.step(0, 16, 0));
    }

    static void promise19OnlyForgivingHasASecondDigit() {
        RainOwed x = new RainOwed();
        Checks.plan(x, "y12;m34;h5;k6");
        int[][] steps = {{0, 12, NONE}, {1, 3, 4}, {2, 5, NONE}, {3, 6, NONE}};
        for (int i = 0; i < 4; i++) {
            for (int what = 0; what < 3; what++) {
                due("step " + i, steps[i][what], x.step(0, i, what));
            }
        }
        Checks.plan(x, "y00;m00;h0;k0");
        for (int i = 0; i < 4; i++) {
            due("step " + i, i == 1 ? 0 : NONE, x.step(1, i, 2));
        }
    }

    static void promise19NoSuchPlan() {
        for (int plan : new int[] {-1, 2, 4, LEAST_INT, MOST_INT}) {
            refused("plan " + plan, Edges::busy, HIDDEN, x -> x.step(plan, 0, 0));
        }
    }

    static void promise19NoSuchStep() {
        for (int i : new int[] {-1, 2, 16, LEAST_INT, MOST_INT}) {
            refused("step " + i, Edges::busy, HIDDEN, x -> x.step(1, i, 0));
        }
    }

    static void promise19NoSuchWhat() {
        for (int what : new int[] {-1, 3, LEAST_INT, MOST_INT}) {
            refused("what " + what, Edges::busy, HIDDEN, x -> x.step(1, 0, what));
        }
    }

    private static void run(String plan, int behind, int coins) {
        RainOwed x = withPlan(PLAIN, plan);
        due("run of " + plan, behind, x.run(0, 0));
        due("coins of " + plan, coins, x.run(0, 1));
        due("apart", 0, x.count(10));
        due("done of " + plan, behind == NONE ? steps(x) : behind, x.perform(0));
        due("acts of " + plan, behind == NONE ? steps(x) : behind, x.count(10));
    }

    private static int steps(RainOwed x) {
        int steps = 0;
        while (x.step(0, steps, 0) != HIDDEN) {
            steps++;
        }
        return steps;
    }

    static void promise20AllCanBe() {
        run("y00", NONE, 28);
        run("h0;h0", NONE, 0);
        run("k0;k0;k0;k0;k0;k0", NONE, 0);
    }

    static void promise20TheFirstCantBe() {
        run("h2", 0, 0);
        run("h2;y00", 0, 0);
    }

    static void promise20ForgivingAtItsEdges() {
        run("m00", 0, 0);
        run("m01", NONE, 0);
        run("m15", NONE, 0);
        run("m16", 0, 0);
        run("m09;m01", NONE, 0);
        run("m09;m02", 1, 0);
        run("m21", 0, 0);
        run("m31", 0, 0);
        run("m91", 0, 0);
    }

    static void promise20HedgesAtTheirEdges() {
        run("h0", NONE, 0);
        run("h1", NONE, 0);
        run("h2", 0, 0);
        run("h3", 0, 0);
        run("h9", 0, 0);
        RainOwed x = withPlan("f;f;fn7", "h1;h1;h0");
        due("alike both", 2, x.run(0, 0));
    }

    static void promise20CansAtTheirEdges() {
        run("k1;k1", 1, 0);
        run("k2", 0, 0);
        run("k3", 0, 0);
        run("k9", 0, 0);
        RainOwed x = withPlan("fw29;f", "k0;k0");
        due("full then", 1, x.run(0, 0));
    }

    static void promise20YearsEndAt999() {
        RainOwed x = inYear(withPlan("f;f", "y00;y00"), 998);
        due("one more", 1, x.run(0, 0));
        x.year(0);
        due("none", 0, x.run(0, 0));
        due("nothing is borne", 0, x.run(0, 1));
        RainOwed y = inYear(withPlan("f;f", "y00;y00"), 997);
        due("both", NONE, y.run(0, 0));
        RainOwed z = inYear(withPlan("sd99;fn20;f", "k0;y00"), 999);
        due("a can yet", 1, z.run(0, 0));
    }

    static void promise20CoinsUpToTheStepThatCantBe() {
        RainOwed x = withPlan("si0;fw20;fw0n0", "y00;y00;h1;y00");
        due("behind two", 2, x.run(0, 0));
        due("two years", 36, x.run(0, 1));
    }

    static void promise20NoSuchOnes() {
        for (int n : new int[] {-1, 2, 4, LEAST_INT, MOST_INT}) {
            refused("plan " + n, Edges::busy, HIDDEN, x -> x.run(n, 0));
            refused("what " + n, Edges::busy, HIDDEN, x -> x.run(0, n));
        }
        refused("apart", Edges::busy, NONE, x -> x.run(0, 0));
    }

    static void promise20NoPlain() {
        RainOwed x = new RainOwed();
        Checks.plan(x, "y00");
        due("behind how many", HIDDEN, x.run(0, 0));
        due("coins", HIDDEN, x.run(0, 1));
    }

    static void promise21NoSuchPlan() {
        for (int plan : new int[] {-1, 2, 4, LEAST_INT, MOST_INT}) {
            refused("perform(" + plan + ")", Edges::busy, NONE, x -> x.perform(plan));
        }
    }

    static void promise21NoPlain() {
        RainOwed x = new RainOwed();
        Checks.plan(x, "y00");
        due("perform", NONE, x.perform(0));
        due("the year", 0, x.count(5));
    }

    static void promise21NoneIsDone() {
        refused("the first can't be", () -> withPlan(PLAIN, "h2;y00"), 0, x -> x.perform(0));
    }

    static void promise21UpToTheStepThatCantBe() {
        RainOwed x = withPlan(PLAIN, "y00;m02;h2;y99");
        due("two", 2, x.perform(0));
        due("the year", 1, x.count(5));
        due("the log", 1, x.count(9));
        due("acts", 2, x.count(10));
        field(x, 0, 8, 6, 1, 2, 30);
        field(x, 2, 0, 6, 25, 3, 20);
    }

    static void promise21SixteenSteps() {
        RainOwed x = withPlan(PLAIN, "y01" + ";y02".repeat(15));
        due("sixteen", 16, x.perform(0));
        due("years", 16, x.count(5));
        due("acts", 16, x.count(10));
        due("undone one by one", 15, x.undo());
        due("the year", 15, x.count(5));
    }

    static void promise21EachStepIsAnActOfTheLatest40() {
        RainOwed x = withPlan(PLAIN, "y01" + ";y02".repeat(15));
        x.perform(0);
        x.perform(0);
        due("acts", 32, x.count(10));
        x.perform(0);
        due("40 at most", 40, x.count(10));
        due("years", 48, x.count(5));
    }

    static void promise21YearsEndAt999() {
        RainOwed x = inYear(withPlan("f;f", "y00;y00;y00"), 997);
        due("two", 2, x.perform(0));
        due("the last", 999, x.count(5));
        due("none", 0, x.perform(0));
        due("the last", 999, x.count(5));
    }
}
