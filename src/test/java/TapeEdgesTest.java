import java.nio.charset.StandardCharsets;

/** Edges of promises 1 to 3: a new object, feed, end. */
public final class TapeEdgesTest extends Edges {
    public static void main(String[] args) {
        run(TapeEdgesTest.class, 1, 2, 3);
    }

    private static RainOwed full(int bytes) {
        RainOwed x = new RainOwed();
        while (x.count(3) + 20 <= bytes) {
            x.feed(-1, -1, -1, -1, -1);
        }
        while (x.count(3) < bytes) {
            x.feed(1, 0, 0, 0, 0);
        }
        return x;
    }

    static void promise1NoneIsMinusOne() {
        due("NONE", -1, RainOwed.NONE);
    }

    static void promise1HiddenIsMinusAMillion() {
        due("HIDDEN", -1000000, RainOwed.HIDDEN);
    }

    static void promise1ANewObjectIsEmpty() {
        int[] counts = {0, 0, 0, 0, NONE, 0, 0, 0, 0, 0, 0};
        RainOwed x = new RainOwed();
        for (int what = 0; what < counts.length; what++) {
            due("count(" + what + ")", counts[what], x.count(what));
        }
    }

    static void promise1WithoutAPlainNothingOfItIsTold() {
        RainOwed x = new RainOwed();
        for (int what = 0; what < 3; what++) {
            due("rule", NONE, x.rule(what));
            due("log", NONE, x.log(0, what));
        }
        for (int what = 0; what < 5; what++) {
            refusedField(x, 0, what);
        }
        for (int what = 0; what < 7; what++) {
            due("all", NONE, x.all(what));
        }
        due("step", HIDDEN, x.step(0, 0, 0));
        due("shares", NONE, x.shares(0, 1));
        due("buyers", NONE, x.buyers(1));
        due("turn", NONE, x.turn(0));
        due("forgiven", NONE, x.forgiven(0));
    }

    static void promise1WithoutAPlainNoActCanBe() {
        Maker empty = RainOwed::new;
        refused("year", empty, NONE, x -> x.year(0));
        refused("sell", empty, NONE, x -> x.sell(0, 1, 1));
        refused("forgive", empty, NONE, x -> x.forgive(0, 1));
        refused("hedge", empty, NONE, x -> x.hedge(0));
        refused("can", empty, NONE, x -> x.can(0));
        refused("price", empty, NONE, x -> x.price(5));
        refused("price 0", empty, NONE, x -> x.price(0));
        refused("years", empty, NONE, x -> x.years(1, 1));
        refused("undo", empty, NONE, RainOwed::undo);
        refused("image", empty, NONE, RainOwed::image);
        refused("back", empty, NONE, RainOwed::back);
        refused("fell", empty, NONE, x -> x.fell(0, 1, 1, true));
    }

    static void promise1WithoutAPlainNothingIsWorkedOut() {
        RainOwed x = new RainOwed();
        due("falls", NONE, x.falls(0, 1));
        due("drowns", NONE, x.drowns(1));
        due("safe", NONE, x.safe());
        due("least", NONE, x.least(1, 0));
        due("least", NONE, x.least(1, 1));
        due("best", NONE, x.best(1, 0));
        due("trades", NONE, x.trades(1, NONE));
        due("debts", NONE, x.debts(0, NONE));
        due("ask", NONE, x.ask(0, 0));
        due("game", HIDDEN, x.game(0, 1, 1, 0, 0, 0));
        due("rests", NONE, x.rests(0, 1, 1, NONE));
        due("odds", NONE, x.odds(0, 0, 1));
        due("ahead", NONE, x.ahead(0, 0, 1));
        due("even", NONE, x.even(0, 1));
        due("together", NONE, x.together(1));
        due("harvest", NONE, x.harvest(1));
    }

    static void promise1LawsPlansAndHeresyNeedNoPlain() {
        RainOwed x = new RainOwed();
        due("law", 0, Checks.tell(x, "y:1").text(1));
        due("plan", 0, Checks.tell(x, "y00").text(2));
        due("it holds", true, x.law(0));
        due("heresy", true, x.heresy(1));
    }

    static void promise2TheHighestByteOfEachNumberIsFirst() {
        RainOwed x = new RainOwed();
        byte[] text = "fo12n3w4c56;fo7v8n09".getBytes(StandardCharsets.ISO_8859_1);
        int[] five = new int[5];
        for (int i = 0; i < 20; i++) {
            five[i / 4] = five[i / 4] * 256 + text[i];
        }
        due("twenty", 20, x.feed(five[0], five[1], five[2], five[3], five[4]));
        due("fields", 2, x.text(0));
        field(x, 0, 12, 3, 4, 3, 56);
        field(x, 1, 7, 9, 5, 8, 20);
    }

    static void promise2BytesOfZeroAreLeftOutWhereverTheyStand() {
        RainOwed x = new RainOwed();
        due("none", 0, x.feed(0, 0, 0, 0, 0));
        due("highest", 1, x.feed('f' << 24, 0, 0, 0, 0));
        due("second", 2, x.feed(0, ';' << 16, 0, 0, 0));
        due("third", 3, x.feed(0, 0, 'f' << 8, 0, 0));
        due("lowest", 4, x.feed(0, 0, 0, ' ', 0));
        due("the last number", 6, x.feed(0, 0, 0, 0, 'o' << 24 | '4'));
        due("the text", 2, x.text(0));
        due("owed", 4, x.field(1, 0));
    }

    static void promise2BytesAbove127AreBytes() {
        RainOwed x = new RainOwed();
        due("all of 255", 20, x.feed(-1, -1, -1, -1, -1));
        due("of 128", 22, x.feed(0x80000080, 0, 0, 0, 0));
    }

    static void promise2TwoHundredAndFortyFit() {
        due("the last twenty", 240, full(220).feed(-1, -1, -1, -1, -1));
        due("the last one", 240, full(239).feed(0, 0, 0, 0, 1));
    }

    static void promise2OneMoreThan240IsRefused() {
        refused("a 241st", () -> full(240), NONE, x -> x.feed(0, 0, 0, 0, 1));
        refused("a 241st, the highest", () -> full(240), NONE, x -> x.feed(0x01000000, 0, 0, 0, 0));
        refused("twenty at 221", () -> full(221), NONE, x -> x.feed(-1, -1, -1, -1, -1));
        refused("two at 239", () -> full(239), NONE, x -> x.feed(1, 0, 0, 0, 1));
    }

    static void promise2NoneOfWhatIsRefusedIsOnTheTape() {
        RainOwed x = new RainOwed();
        Checks.tell(x, "f;f" + " ".repeat(236));
        due("two at 239", NONE, x.feed('o' << 8 | '9', 0, 0, 0, 0));
        due("still 239", 239, x.count(3));
        due("no fault", NONE, x.fault(0));
    }

    static void promise2NothingMoreIsNotTooMuch() {
        due("bytes of 0 alone", 240, full(240).feed(0, 0, 0, 0, 0));
    }

    static void promise2ATapeThatWasTakenHasRoomAgain() {
        RainOwed x = new RainOwed();
        Checks.tell(x, "f;f" + " ".repeat(237));
        due("full", 240, x.count(3));
        due("taken", 2, x.text(0));
        due("room", 20, x.feed(-1, -1, -1, -1, -1));
    }

    static void promise3NoneOfItsBytes() {
        RainOwed x = full(41);
        due("end(0)", true, x.end(0));
        due("empty", 0, x.count(3));
    }

    static void promise3AllOfItsBytes() {
        RainOwed x = full(41);
        due("end(41)", true, x.end(41));
        due("as it was", 41, x.count(3));
        RainOwed y = full(240);
        due("end(240)", true, y.end(240));
        due("as it was", 240, y.count(3));
    }

    static void promise3MoreThanItHas() {
        refused("end(42)", () -> full(41), 0, x -> x.end(42) ? 1 : 0);
        refused("end(241)", () -> full(240), 0, x -> x.end(241) ? 1 : 0);
        refused("end(1) of none", RainOwed::new, 0, x -> x.end(1) ? 1 : 0);
        refused("the most", () -> full(41), 0, x -> x.end(MOST_INT) ? 1 : 0);
    }

    static void promise3FewerThanNone() {
        refused("end(-1)", () -> full(41), 0, x -> x.end(-1) ? 1 : 0);
        refused("the least", () -> full(41), 0, x -> x.end(LEAST_INT) ? 1 : 0);
    }

    static void promise3AnEmptyTapeHasItsFirstNone() {
        due("end(0)", true, new RainOwed().end(0));
    }

    static void promise3WhatIsBehindIsGone() {
        RainOwed x = Checks.tell(new RainOwed(), "f;fo12");
        due("cut", true, x.end(5));
        due("what was there can't come back", false, x.end(6));
        x.feed('5', 0, 0, 0, 0);
        due("text", 2, x.text(0));
        due("the first bytes, then the new one", 15, x.field(1, 0));
    }
}
