/** Each promise of the document by hand: ordinary inputs, edges, wrong inputs. */
public final class PromisesTest {
    /** Interest 2, drowning by 12, price 3; three fields. */
    private static final String BASE = "si2d12p3;fo10v2;fo5n8w0v1c4;fc0";
    private static final int NONE = RainOwed.NONE;
    private static final int HIDDEN = RainOwed.HIDDEN;
    private static final Checks c = new Checks();

    public static void main(String[] args) {
        promise1NewObject();
        promises2And3Tape();
        promise4Fault();
        promise5Text();
        promises6And7RulesAndFields();
        promises8And9LawAndHeresy();
        promise10Year();
        promise10Law();
        promise10Bounds();
        promise11Sell();
        promise12Forgive();
        promise13Hedge();
        promises14And15CanAndPrice();
        promise16Years();
        promises17And18UndoAndLog();
        promise19Step();
        promises20And21Plans();
        promises22To24Falls();
        promise25Least();
        promises26And27Sales();
        promises28To30Debts();
        promises31And32Games();
        promise33Odds();
        promises34And42Turn();
        promises35To37Ahead();
        promises38To41AsItIs();
        promises43And44Image();
        promise45Count();
        c.close("PromisesTest");
    }

    private static void promise1NewObject() {
        c.due("NONE", -1, NONE);
        c.due("HIDDEN", -1000000, HIDDEN);
        RainOwed x = new RainOwed();
        int[] counts = {0, 0, 0, 0, NONE, 0, 0, 0, 0, 0, 0};
        for (int i = 0; i < counts.length; i++) {
            c.due("1 count " + i, counts[i], x.count(i));
        }
        c.due("1 rule", NONE, x.rule(0));
        c.refusedField(x, 0, 0);
        c.due("1 all", NONE, x.all(4));
        c.due("1 back", NONE, x.back());
        c.due("1 price", NONE, x.price(3));
        c.due("1 perform", NONE, x.perform(0));
    }

    private static void promises2And3Tape() {
        RainOwed x = new RainOwed();
        c.due("2 zeros", 0, x.feed(0, 0, 0, 0, 0));
        c.due("2 left out", 3, x.feed(0x66003B00, 0, 0x00000066, 0, 0));
        c.due("2 order", 2, x.text(0));
        c.due("2 negative", 20, x.feed(-1, -1, -1, -1, -1));
        for (int k = 2; k <= 12; k++) {
            c.due("2 more", 20 * k, x.feed(-1, -1, -1, -1, -1));
        }
        c.due("2 full", NONE, x.feed(0, 0, 0, 0, 1));
        c.due("2 full, nothing more", 240, x.feed(0, 0, 0, 0, 0));
        c.due("2 unchanged", 240, x.count(3));
        c.due("3 last", true, x.end(239));
        c.due("2 two are too many", NONE, x.feed(0, 0, 0, 0, 0x101));
        c.due("2 one fits", 240, x.feed(0, 0, 1, 0, 0));
        for (int k = 0; k < 5; k++) {
            x.end(239);
            c.due("2 wherever they stand", NONE, x.feed(k == 0 ? 0x1010000 : 0, k == 1 ? 0x10100 : 0,
                k == 2 ? 0x101 : 0, k == 3 ? 0x1000001 : 0, k == 4 ? 0x1000100 : 0));
        }
        c.due("2 one fits", 240, x.feed(0, 0, 0, 0, 0x10000));
        c.due("3 all of it", true, x.end(240));
        c.due("3 beyond", false, x.end(241));
        c.due("3 below", false, x.end(-1));
        c.due("3 unchanged", 240, x.count(3));
        c.due("3 some", true, x.end(7));
        c.due("3 count", 7, x.count(3));
        c.due("3 beyond what is left", false, x.end(8));
        Checks.tell(x, "f;fo10");
        x.end(5);
        x.text(0);
        c.due("3 the first bytes", 1, x.field(1, 0));
    }

    private static void fault(int sort, String text, int want) {
        RainOwed x = Checks.tell(new RainOwed(), text);
        c.due("4 fault(" + sort + ") of '" + text + "'", want, x.fault(sort));
        c.due("4 the tape stays", text.length(), x.count(3));
        if (want != NONE) {
            c.due("5 text(" + sort + ") of '" + text + "'", NONE, x.text(sort));
            c.due("5 the tape stays", text.length(), x.count(3));
        }
    }

    private static void promise4Fault() {
        fault(3, "f;f", -2);
        fault(-1, "f;f", -2);
        fault(0, "f;f", NONE);
        fault(0, "s;f;f;f;f;f;f", NONE);
        fault(0, "f;f;f;f;f;f;si9d99p30", NONE);
        fault(0, "fo99n20w30v9c99;f o0 n0 w0 v0 c00 ", NONE);
        fault(0, "", 0);
        fault(0, "  ", 2);
        fault(0, "s", 1);
        fault(0, "f ", 2);
        fault(0, "f;", 2);
        fault(0, "f;s", 3);
        fault(0, "f;;f", 2);
        fault(0, "s;s;f;f", 2);
        fault(0, "s;f;f;f;f;f;f; f", 15);
        fault(0, "f;f;f;f;f;f; s ; s", 17);
        fault(0, "ff", 1);
        fault(0, "fi1;f", 1);
        fault(0, "so1;f;f", 1);
        fault(0, "fo;f", 2);
        fault(0, "fo", 2);
        fault(0, "fo1o2;f", 3);
        fault(0, "fo1 0;f", 4);
        fault(0, "fo100;f", 4);
        fault(0, "fv100;f", 4);
        fault(0, "fv10;f", 3);
        fault(0, "fw31;f", 3);
        fault(0, "fn21;f", 3);
        fault(0, "si10;f;f", 3);
        fault(0, "sp31;f;f", 3);
        fault(0, "sd0;f;f", 2);
        fault(0, "sd00;f;f", 3);
        fault(0, "sd000;f;f", 4);
        fault(0, "sd01;f;f", NONE);
        fault(0, "f;f\u00e9", 3);
        fault(0, "f;f\t", 3);
        fault(1, "y:o/2", NONE);
        fault(1, "", 0);
        fault(1, "y", 1);
        fault(1, "y:", 2);
        fault(1, "y:1;", 4);
        fault(1, "y:1;y:o=1?2", NONE);
        fault(1, "y:1?2", 3);
        fault(1, "y:1=2", 5);
        fault(1, "y:1=2?", 6);
        fault(1, "y:1=2=3?4", 5);
        fault(1, "y:1=2?3=4", 7);
        fault(1, "y:1&2?3", 3);
        fault(1, "y:(1)?2", 4);
        fault(1, "y:(1=2)?2", NONE);
        fault(1, "y:(1=2)+1?2", 7);
        fault(1, "y:!o>1&(n<2|w=3)?[o-1]*2", NONE);
        fault(1, "y:[1=2]?3", 4);
        fault(1, "y:-1", 2);
        fault(1, "y:0-1", NONE);
        fault(1, "y:c", 2);
        fault(1, "y:9999", NONE);
        fault(1, "y:00001", 6);
        fault(1, "y:1 2", 4);
        fault(1, "y:[[[[[[1]]]]]]", NONE);
        fault(1, "y:[[[[[[[1]]]]]]]", 8);
        fault(1, "y:!(!(!(1=1)))?[1]", NONE);
        fault(1, "y:!(!(!([1]=1)))?1", 8);
        fault(1, "y:!o=1&!o=1&!o=1&!o=1&!o=1&!o=1&!o=1?1", NONE);
        fault(2, "y00", NONE);
        fault(2, "m99;h9;k9", NONE);
        fault(2, " y 0 9 ; m 1 2 ; h 0 ; k 1 ", NONE);
        fault(2, "", 0);
        fault(2, "y0", 2);
        fault(2, "y099", 3);
        fault(2, "y09 9", 4);
        fault(2, "h00", 2);
        fault(2, "x1", 0);
        fault(2, "y09;", 4);
        fault(2, "k0;k0;k0;k0;k0;k0;k0;k0;k0;k0;k0;k0;k0;k0;k0;k0", NONE);
        fault(2, "k0;k0;k0;k0;k0;k0;k0;k0;k0;k0;k0;k0;k0;k0;k0;k0 ;k0", 48);
        fault(2, "k0;k0;k0;k0;k0;k0;k0;k0;k0;k0;k0;k0;k0;k0;k0;k0;", 47);
    }

    private static void promise5Text() {
        RainOwed x = Checks.tell(new RainOwed(), "f;f");
        c.due("5 no such sort", NONE, x.text(3));
        c.due("5 no such sort", NONE, x.text(-1));
        c.due("5 fields", 2, x.text(0));
        Checks.tell(x, "y11");
        c.due("5 no such sort", NONE, x.text(3));
        c.due("5 no such sort", NONE, x.text(-1));
        x.end(0);
        c.due("5 the tape is empty", 0, x.count(3));
        for (int k = 0; k < 4; k++) {
            c.due("5 law", k, Checks.tell(x, "y:1" + k).text(1));
            c.due("5 plan", k, Checks.tell(x, "y1" + k).text(2));
        }
        c.due("5 a fifth law", NONE, Checks.tell(x, "y:1").text(1));
        c.due("5 the tape stays", 3, x.count(3));
        c.due("5 a fifth plan", NONE, Checks.tell(x, "y11").text(2));
        c.due("5 the tape stays", 3, x.count(3));
        c.due("5 none by a fault", NONE, x.fault(2));
        x.law(2);
        x.heresy(4);
        x.year(40);
        x.price(7);
        x.fell(0, 1, 1, true);
        x.image();
        c.due("5 another plain", 3, Checks.tell(x, "f;fo7;f").text(0));
        int[] counts = {3, 4, 4, 0, 2, 0, 60, 4, 0, 0, 0};
        for (int i = 0; i < counts.length; i++) {
            c.due("5 count " + i, counts[i], x.count(i));
        }
        c.due("5 its price", 2, x.rule(2));
        c.due("5 its image is gone", NONE, x.back());
        c.due("5 its acts are gone", NONE, x.undo());
        c.due("5 its log is gone", NONE, x.log(0, 0));
        c.due("5 law holds", 24, x.falls(1, 38));
    }

    private static void promises6And7RulesAndFields() {
        RainOwed x = Checks.plain(BASE);
        int[] rules = {2, 12, 3};
        for (int i = 0; i < 3; i++) {
            c.due("6 rule " + i, rules[i], x.rule(i));
        }
        c.due("6 no such", NONE, x.rule(3));
        c.due("6 no such", NONE, x.rule(-1));
        int[][] fields = {{10, 6, 5, 2, 20}, {5, 8, 0, 1, 4}, {0, 6, 5, 3, 0}};
        for (int f = 0; f < 3; f++) {
            for (int what = 0; what < 5; what++) {
                c.due("7 field " + f + " " + what, fields[f][what], x.field(f, what));
            }
            c.refusedField(x, f, 5);
            c.refusedField(x, f, -1);
        }
        c.refusedField(x, 3, 0);
        c.refusedField(x, -1, 0);
        x.price(9);
        c.due("6 price now", 9, x.rule(2));
        RainOwed y = Checks.plain("f;f");
        c.due("6 without", 1, y.rule(0));
        c.due("6 without", 30, y.rule(1));
        c.due("6 without", 2, y.rule(2));
        c.due("7 without", 3, y.field(0, 3));
    }

    private static void promises8And9LawAndHeresy() {
        RainOwed x = new RainOwed();
        c.due("8 none", true, x.law(NONE));
        c.due("8 no such", false, x.law(0));
        c.due("8 no such", false, x.law(-2));
        Checks.tell(x, "y:7").text(1);
        c.due("8 none holds at first", NONE, x.count(4));
        c.due("8 law", true, x.law(0));
        c.due("8 again", true, x.law(0));
        c.due("8 holds", 0, x.count(4));
        c.due("8 no such", false, x.law(1));
        c.due("8 still", 0, x.count(4));
        c.due("8 none", true, x.law(NONE));
        c.due("8 none", NONE, x.count(4));
        c.due("9 as it is", false, x.heresy(0));
        c.due("9 most", true, x.heresy(9));
        c.due("9 beyond", false, x.heresy(10));
        c.due("9 below", false, x.heresy(-1));
        c.due("9 so", 9, x.count(7));
        c.due("9 as it is", false, x.heresy(9));
        c.due("9 back", true, x.heresy(0));
    }

    private static void fields(String what, RainOwed x, int[][] want) {
        for (int f = 0; f < want.length; f++) {
            int[] got = {x.field(f, 0), x.field(f, 1), x.field(f, 2), x.field(f, 4)};
            for (int k = 0; k < 4; k++) {
                c.due(what + ": field " + f + " " + "onwc".charAt(k), want[f][k], got[k]);
            }
        }
    }

    private static void promise10Year() {
        RainOwed x = Checks.plain(BASE);
        c.due("10 out of bounds", NONE, x.year(100));
        c.due("10 out of bounds", NONE, x.year(-1));
        c.due("10 no year", 0, x.count(5));
        c.due("10 a dry year", 27, x.year(9));
        c.due("10 the year", 1, x.count(5));
        fields("10 dry", x, new int[][] {{6, 6, 8, 32}, {9, 8, 0, 4}, {3, 6, 0, 15}});
        RainOwed y = Checks.plain(BASE);
        c.due("10 a wet year", 18, y.year(30));
        fields("10 wet", y, new int[][] {{6, 6, 21, 20}, {3, 8, 13, 4}, {9, 6, 0, 18}});
        RainOwed z = Checks.plain("si9d99;fo99w30n20v9c99;fo99n0");
        c.due("10 as much as drowns", 0, z.year(99));
        fields("10 as much as drowns", z, new int[][] {{138, 20, 30, 99}, {237, 0, 5, 20}});
        c.due("10 no rain", 180, z.year(0));
        fields("10 no rain", z, new int[][] {{262, 20, 10, 279}, {450, 0, 5, 20}});
        RainOwed t = Checks.plain("si0;fo1;fo3;fo3;fo2");
        c.due("10 in turn", 66, t.year(2));
        fields("10 in turn", t, new int[][] {{1, 6, 0, 35}, {2, 6, 0, 38}, {2, 6, 0, 38}, {2, 6, 0, 35}});
    }

    private static void worth(String law, int want) {
        RainOwed x = Checks.plain("si0d99;fo8n3w7v5;fo0");
        Checks.law(x, law);
        c.due("10 worth of " + law, want, x.falls(0, 41) - 20);
    }

    /** The first field is paid ahead of the other one: 21 of the rain is left for it beside the share. */
    private static void promise10Law() {
        worth("y:0", 0);
        worth("y:20", 20);
        worth("y:o", 8);
        worth("y:n", 3);
        worth("y:w", 7);
        worth("y:v", 5);
        worth("y:s-1", 19);
        worth("y:t", 0);
        worth("y:1+2*3", 7);
        worth("y:[1+2]*3", 9);
        worth("y:20-5-4", 11);
        worth("y:20/3*2", 12);
        worth("y:0-3", 0);
        worth("y:[0-7]/2+5", 2);
        worth("y:5/0+1", 1);
        worth("y:9999*9999-[9999*100+88]", 12);
        worth("y:0-9999*9999+9999*100+109", 9);
        worth("y:o=8?4", 4);
        worth("y:o=7?4", 0);
        worth("y:o=7?4;y:o>7?5;y:6", 5);
        worth("y:o<7?4;y:o>8?5;y:6", 6);
        worth("y:o=8&n=3?1;y:2", 1);
        worth("y:o=8&n=4?1;y:2", 2);
        worth("y:o=7|n=3?1;y:2", 1);
        worth("y:o=7|n=4?1;y:2", 2);
        worth("y:o=8|n=3&n=4?1;y:2", 1);
        worth("y:(o=8|n=3)&n=4?1;y:2", 2);
        worth("y:!o=7&n=4?1;y:2", 2);
        worth("y:!(o=7&n=4)?1;y:2", 1);
        worth("y:!!o=8?1;y:2", 1);
        RainOwed x = Checks.plain("si0d99;f;f");
        Checks.law(x, "y:t*10");
        x.year(0);
        c.due("10 t in year 1", 30, x.falls(0, 40));
        x.year(0);
        c.due("10 t in year 2", 45, x.falls(0, 50));
        RainOwed y = Checks.plain("si5;fo10;f");
        Checks.law(y, "y:o");
        c.due("10 o is with interest", 35, y.falls(0, 40));
        RainOwed z = Checks.plain("si5;fo10;f");
        Checks.law(z, "y:o*2-27");
        c.due("10 o is with interest", 13, z.falls(0, 20));
        z.law(NONE);
        c.due("10 half without a law", 17, z.falls(0, 20));
    }

    private static void promise10Bounds() {
        RainOwed x = Checks.plain("si9d1;fo99c99v9n20w30;fo99");
        for (int k = 0; k < 16; k++) {
            c.due("10 years", 60 * (k + 1), x.years(60, k));
        }
        c.due("10 beyond", NONE, x.years(40, 1));
        c.due("10 up to the last", 999, x.years(39, 1));
        c.due("10 none goes by", NONE, x.year(0));
        c.due("10 none goes by", NONE, x.years(1, 1));
        c.due("10 the year", 999, x.count(5));
        c.due("10 apart they go on", true, x.ahead(0, 5, 0) >= 0);
        int plan = Checks.plan(x, "y00");
        c.due("20 not in a run", 0, x.run(plan, 0));
        c.due("21 not in a plan", 0, x.perform(plan));
        RainOwed y = Checks.plain("si9d99;fo99c99v9n20w30;fo99");
        for (int k = 0; k < 9; k++) {
            y.year(1);
        }
        c.due("10 owed at most", 999, y.field(1, 0));
        for (int k = 0; k < 60; k++) {
            y.year(60);
        }
        c.due("10 coins at most", 999, y.field(0, 4));
        c.due("10 borne all the same", true, y.harvest(60) > 100 && y.year(60) > 100);
        c.due("10 water at most", true, y.field(0, 2) <= 30);
    }

    private static void promise11Sell() {
        RainOwed x = Checks.plain("sp3;fo10c20;fo2c10;fc99");
        c.due("11 no such", NONE, x.sell(3, 0, 1));
        c.due("11 no such", NONE, x.sell(0, 3, 1));
        c.due("11 no such", NONE, x.sell(-1, 0, 1));
        c.due("11 alike", NONE, x.sell(0, 0, 1));
        c.due("11 nothing", NONE, x.sell(0, 1, 0));
        c.due("11 too much", NONE, x.sell(0, 2, 21));
        c.due("11 not owed", NONE, x.sell(1, 0, 3));
        c.due("11 too few coins", NONE, x.sell(0, 1, 4));
        c.due("11 no act", 0, x.count(10));
        c.due("11 sale", 29, x.sell(0, 1, 3));
        fields("11 sale", x, new int[][] {{7, 6, 5, 29}, {5, 6, 5, 1}, {0, 6, 5, 99}});
        c.due("11 all", 50, x.sell(0, 2, 7));
        fields("11 all", x, new int[][] {{0, 6, 5, 50}, {5, 6, 5, 1}, {7, 6, 5, 78}});
        x.price(0);
        c.due("11 for nothing", 1, x.sell(1, 0, 5));
        c.due("11 undone", 3, x.undo());
        c.due("11 undone", 5, x.field(1, 0));
        RainOwed y = Checks.plain("si9d99p30;fo99c99v9n20w30;fo99c99");
        for (int k = 0; k < 9; k++) {
            y.year(40);
        }
        c.due("11 rich", 999, y.field(0, 4));
        c.due("11 it is owed enough", true, y.field(0, 0) >= 1);
        c.due("11 the buyer has enough", true, y.field(1, 4) >= 30);
        c.due("11 the seller has too much", NONE, y.sell(0, 1, 1));
        y.price(0);
        c.due("11 for nothing it can be", 999, y.sell(0, 1, 1));
        RainOwed z = Checks.plain("si9p0;fo99;fo99");
        for (int k = 0; k < 10; k++) {
            z.year(0);
        }
        c.due("11 owed most", 999, z.field(1, 0));
        c.due("11 it can be", 35, z.sell(0, 1, 5));
        c.due("11 owed less", 994, z.field(0, 0));
        c.due("11 999 at most", 999, z.field(1, 0));
    }

    private static void promise12Forgive() {
        RainOwed x = Checks.plain("fo25w30;fo2w29;f");
        c.due("12 no such", NONE, x.forgive(3, 1));
        c.due("12 no such", NONE, x.forgive(-1, 1));
        c.due("12 nothing", NONE, x.forgive(0, 0));
        c.due("12 too much", NONE, x.forgive(0, 21));
        c.due("12 more than is owed", NONE, x.forgive(1, 3));
        c.due("12 most", 5, x.forgive(0, 20));
        fields("12", x, new int[][] {{5, 6, 30, 20}, {2, 6, 30, 20}, {0, 6, 6, 20}});
        c.due("12 all of it", 0, x.forgive(1, 2));
        c.due("12 mist", 7, x.field(2, 2));
        c.due("12 none is owed", NONE, x.forgive(2, 1));
    }

    private static void promise13Hedge() {
        RainOwed x = Checks.plain("fo7n2;fo3n9;fo3n9;fo4n9");
        c.due("13 no such", NONE, x.hedge(-1));
        c.due("13 no such", NONE, x.hedge(4));
        c.due("13 the last", NONE, x.hedge(3));
        c.due("13 alike", NONE, x.hedge(1));
        c.due("13 owed alone", 4, x.hedge(2));
        c.due("13 both", 3, x.hedge(0));
        fields("13", x, new int[][] {{3, 9, 5, 20}, {7, 2, 5, 20}, {4, 9, 5, 20}, {3, 9, 5, 20}});
        RainOwed y = Checks.plain("fn1;fn2");
        c.due("13 needs alone", 0, y.hedge(0));
        c.due("13 needs", 2, y.field(0, 1));
        c.due("13 largest", NONE, y.hedge(Integer.MAX_VALUE));
    }

    private static void promises14And15CanAndPrice() {
        RainOwed x = Checks.plain("fc3;fc2;fw30;fw29");
        c.due("14 no such", NONE, x.can(4));
        c.due("14 no such", NONE, x.can(-1));
        c.due("14 can", 7, x.can(0));
        c.due("14 coins", 0, x.field(0, 4));
        c.due("14 too few", NONE, x.can(1));
        c.due("14 full", NONE, x.can(2));
        c.due("14 30 at most", 30, x.can(3));
        c.due("14 coins", 17, x.field(3, 4));
        c.due("14 full now", NONE, x.can(3));
        c.due("15 as it is", NONE, x.price(2));
        c.due("15 below", NONE, x.price(-1));
        c.due("15 beyond", NONE, x.price(31));
        c.due("15 no act", 2, x.count(10));
        c.due("15 set", 2, x.price(30));
        c.due("15 set", 30, x.price(0));
        c.due("15 now", 0, x.rule(2));
        c.due("15 acts", 4, x.count(10));
    }

    private static void promise16Years() {
        RainOwed x = Checks.plain(BASE);
        c.due("16 none", NONE, x.years(0, 1));
        c.due("16 too many", NONE, x.years(61, 1));
        c.due("16 below", NONE, x.years(-1, 1));
        for (int seed = -20; seed < 20; seed++) {
            oneYear(seed);
        }
        c.due("16 years", 30, x.years(30, -77L));
        c.due("16 each is an act", 30, x.count(10));
        x.years(11, 5);
        c.due("16 the latest 40", 40, x.count(10));
        c.due("16 one is undone", 39, x.undo());
        c.due("16 the year", 40, x.count(5));
    }

    /** By a heresy below 5 the draw decides whether half of a debt is gone ahead of the year. */
    private static void oneYear(long seed) {
        int[] owed = {10, 5, 3};
        long draw = next(seed);
        if ((draw >>> 33) % 10 < 5) {
            draw = next(draw);
            int f = (int) ((draw >>> 33) % 3);
            owed[f] -= owed[f] / 2;
        }
        draw = next(draw);
        int rain = (int) ((draw >>> 33) % 100);
        RainOwed want = Checks.plain("si2d12;fo" + owed[0] + ";fo" + owed[1] + ";fo" + owed[2]);
        want.year(rain);
        RainOwed got = Checks.plain("si2d12;fo10;fo5;fo3");
        got.heresy(5);
        c.due("16 one year", 1, got.years(1, seed));
        c.due("16 rain", rain, got.log(0, 0));
        for (int f = 0; f < 3; f++) {
            for (int what = 0; what < 5; what++) {
                c.due("16 seed " + seed + " field " + f + " " + what, want.field(f, what), got.field(f, what));
            }
        }
        got.undo();
        c.due("16 undone with the heresy", 18, got.all(4));
    }

    private static long next(long x) {
        return x * 6364136223846793005L + 1442695040888963407L;
    }

    private static void promises17And18UndoAndLog() {
        RainOwed x = Checks.plain(BASE);
        c.due("17 none", NONE, x.undo());
        c.due("18 none", NONE, x.log(0, 0));
        x.year(9);
        x.year(30);
        c.due("18 latest", 30, x.log(0, 0));
        c.due("18 ahead of it", 9, x.log(1, 0));
        c.due("18 nobody", 0, x.log(1, 1));
        c.due("18 coins", 27, x.log(1, 2));
        c.due("18 no such", NONE, x.log(2, 0));
        c.due("18 no such", NONE, x.log(-1, 0));
        c.due("18 no such", NONE, x.log(0, 3));
        c.due("18 no such", NONE, x.log(0, -1));
        c.due("17 undone", 1, x.undo());
        c.due("18 log, too", 1, x.count(9));
        c.due("18 log, too", 9, x.log(0, 0));
        fields("17", x, new int[][] {{6, 6, 8, 32}, {9, 8, 0, 4}, {3, 6, 0, 15}});
        x.forgive(0, 1);
        x.hedge(0);
        x.can(1);
        x.price(8);
        x.sell(1, 0, 1);
        c.due("17 acts", 6, x.count(10));
        for (int k = 5; k >= 0; k--) {
            c.due("17 undone", k, x.undo());
        }
        fields("17 as at first", x, new int[][] {{10, 6, 5, 20}, {5, 8, 0, 4}, {0, 6, 5, 0}});
        c.due("17 price", 3, x.rule(2));
        c.due("17 year", 0, x.count(5));
        c.due("17 none", NONE, x.undo());
        RainOwed w = Checks.plain(BASE);
        w.year(30);
        c.due("18 who drowned", 3, w.log(0, 1));
        logOfMany();
    }

    private static void logOfMany() {
        RainOwed x = Checks.plain("f;f");
        for (int k = 0; k < 130; k++) {
            x.year(k % 100);
        }
        c.due("18 the latest 60", 60, x.count(9));
        c.due("18 the last of them", 70, x.log(59, 0));
        c.due("18 no more", NONE, x.log(60, 0));
        for (int k = 0; k < 40; k++) {
            x.undo();
        }
        c.due("17 no more", NONE, x.undo());
        c.due("17 the year", 90, x.count(5));
        c.due("18 still 60", 60, x.count(9));
        for (int i = 0; i < 60; i++) {
            c.due("18 what was gone is back", 89 - i, x.log(i, 0));
        }
        x.year(3);
        c.due("18 on", 3, x.log(0, 0));
        c.due("18 on", 89, x.log(1, 0));
    }

    private static void promise19Step() {
        RainOwed x = new RainOwed();
        int plan = Checks.plan(x, "y09;m37;h5;k8;y90");
        int[][] steps = {{0, 9, NONE}, {1, 3, 7}, {2, 5, NONE}, {3, 8, NONE}, {0, 90, NONE}};
        for (int i = 0; i < steps.length; i++) {
            for (int what = 0; what < 3; what++) {
                c.due("19 step " + i + " " + what, steps[i][what], x.step(plan, i, what));
            }
        }
        c.due("19 no such plan", HIDDEN, x.step(1, 0, 0));
        c.due("19 no such plan", HIDDEN, x.step(-1, 0, 0));
        c.due("19 no such step", HIDDEN, x.step(0, 5, 0));
        c.due("19 no such step", HIDDEN, x.step(0, -1, 0));
        c.due("19 no such what", HIDDEN, x.step(0, 0, 3));
        c.due("19 no such what", HIDDEN, x.step(0, 0, -1));
        c.due("20 no plain", HIDDEN, x.run(0, 0));
        c.due("21 no plain", NONE, x.perform(0));
    }

    private static void promises20And21Plans() {
        RainOwed x = Checks.plain(BASE);
        Checks.plan(x, "y09;m03;h0;k0;m29;y50");
        Checks.plan(x, "y09;y30");
        Checks.plan(x, "h2");
        Checks.plan(x, "m00");
        c.due("20 behind four", 4, x.run(0, 0));
        c.due("20 coins", 27, x.run(0, 1));
        c.due("20 all can be", NONE, x.run(1, 0));
        c.due("20 none can be", 0, x.run(2, 0));
        c.due("20 nothing is borne", 0, x.run(2, 1));
        c.due("20 to forgive nothing", 0, x.run(3, 0));
        c.due("20 no such", HIDDEN, x.run(4, 0));
        c.due("20 no such", HIDDEN, x.run(0, 2));
        c.due("20 no such", HIDDEN, x.run(0, -1));
        c.due("20 apart", 0, x.count(10));
        int borne = x.run(1, 1);
        c.due("21 all", 2, x.perform(1));
        c.due("20 borne", borne, x.log(0, 2) + x.log(1, 2));
        c.due("21 acts", 2, x.count(10));
        x.undo();
        x.undo();
        c.due("21 four", 4, x.perform(0));
        fields("21", x, new int[][] {{9, 8, 11, 29}, {3, 6, 1, 4}, {3, 6, 1, 15}});
        c.due("21 acts", 4, x.count(10));
        c.due("21 the log", 27, x.log(0, 2));
        c.due("21 none", 0, x.perform(2));
        c.due("21 no such", NONE, x.perform(4));
        c.due("21 no such", NONE, x.perform(-1));
    }

    private static void promises22To24Falls() {
        RainOwed x = Checks.plain(BASE);
        int[] wet = {16, 13, 1};
        int[] dry = {9, 0, 0};
        for (int f = 0; f < 3; f++) {
            c.due("22 wet", wet[f], x.falls(f, 30));
            c.due("22 dry", dry[f], x.falls(f, 9));
            c.due("22 no rain", 0, x.falls(f, 0));
        }
        c.due("22 no such", NONE, x.falls(3, 9));
        c.due("22 no such", NONE, x.falls(-1, 9));
        c.due("22 out of bounds", NONE, x.falls(0, 100));
        c.due("22 out of bounds", NONE, x.falls(0, -1));
        c.due("23 two", 3, x.drowns(30));
        c.due("23 all", 7, x.drowns(99));
        c.due("23 nobody", 0, x.drowns(17));
        c.due("23 out of bounds", NONE, x.drowns(100));
        c.due("24 safe", 17, x.safe());
        c.due("24 the first drowns by 18", 1, x.drowns(18));
        c.due("24 all is safe", 99, Checks.plain("sd99;f;f").safe());
        RainOwed y = Checks.plain("sd10;fo50;f");
        Checks.law(y, "y:s=5?9;y:s=6?0;y:99");
        c.due("24 safe again behind", 13, y.safe());
        c.due("24 though not ahead of it", 1, y.drowns(11));
    }

    private static void promise25Least() {
        RainOwed x = Checks.plain(BASE);
        c.due("25 by none", NONE, x.least(99, 0));
        c.due("25 by none", NONE, x.least(99, 1));
        c.due("25 the field", 0, x.least(18, 0));
        c.due("25 one less", 1, x.least(18, 1));
        c.due("25 0: field 0", 0, x.least(9, 0));
        c.due("25 0", 0, x.least(9, 1));
        c.due("25 out of bounds", NONE, x.least(100, 0));
        c.due("25 out of bounds", NONE, x.least(-1, 0));
        c.due("25 no such", NONE, x.least(9, 2));
        c.due("25 no such", NONE, x.least(9, -1));
        RainOwed y = Checks.plain("si0d12;fo3;fo24;fo8");
        c.due("25 the second", 1, y.least(12, 0));
        c.due("25 nine less", 9, y.least(12, 1));
        c.due("25 apart", 24, y.field(1, 0));
        RainOwed z = Checks.plain("si0d10;f;fo4;fo4");
        Checks.law(z, "y:o=4?10;y:0");
        c.due("25 one alone is too little", NONE, z.least(20, 0));
        c.due("25 all that is owed", 2, Checks.withLaw("si0d6;fo2;f", "y:o>0?1").least(10, 1));
        c.due("25 no more than is owed", NONE, Checks.withLaw("si0d6;fo2;fn1", "y:o<0|n=1?0;y:1").least(10, 1));
    }

    private static void promises26And27Sales() {
        RainOwed x = Checks.plain("si0d99p1;fo4n0c0;fn6w0v3c9;fn6w0v5c0");
        c.due("26 to the one that can buy", 14, x.best(5, 0));
        c.due("26 so much", 14, x.best(5, 1));
        c.due("26 out of bounds", NONE, x.best(100, 0));
        c.due("26 no such", NONE, x.best(5, 2));
        c.due("26 no such", NONE, x.best(5, -1));
        c.due("26 none could be", NONE, Checks.plain("f;f").best(5, 0));
        c.due("26 none could be", NONE, Checks.plain("f;f").best(5, 1));
        RainOwed y = Checks.plain("si0d99p0;fo4n0;fn6w0v3;fn6w0v5");
        c.due("26 to the one that bears most", 24, y.best(3, 0));
        c.due("26 so much", 15, y.best(3, 1));
        c.due("26 least of several", 11, Checks.plain("sp0;fo9;fo9").best(0, 0));
        c.due("27 how many", 0, x.trades(5, NONE));
        c.due("27 out of bounds", NONE, x.trades(100, NONE));
        c.due("27 no such", NONE, x.trades(5, -2));
        RainOwed z = Checks.plain("si0d99p1;fo2n0v0c0;fo1n9w0v9c9;fo0n9w0v9c9");
        c.due("27 trades", 2, z.trades(3, NONE));
        c.due("27 first", 1, z.trades(3, 0));
        c.due("27 second", 2, z.trades(3, 1));
        c.due("27 no such", NONE, z.trades(3, 2));
        c.due("27 apart", 0, z.count(10));
        c.due("27 for nothing no seller has more", 0,
            Checks.plain("si0d99p0;fo2n0v0c0;fo1n9w0v9c9;fo0n9w0v9c9").trades(3, NONE));
    }

    private static void promises28To30Debts() {
        RainOwed x = Checks.plain("si0;fo10;fo5;f");
        c.due("28 no such", NONE, x.fell(3, 1, 1, true));
        c.due("28 out of bounds", NONE, x.fell(0, 100, 1, true));
        c.due("28 out of bounds", NONE, x.fell(0, 1, 100, true));
        c.due("28 out of bounds", NONE, x.fell(0, 1, -1, true));
        c.due("29 all", 100, x.debts(0, NONE));
        c.due("29 the last", 99, x.debts(0, 99));
        c.due("29 no such", NONE, x.debts(0, 100));
        c.due("29 no such", NONE, x.debts(0, -2));
        c.due("29 no such field", NONE, x.debts(3, NONE));
        c.due("28 one", 1, x.fell(0, 99, 40, true));
        c.due("29 14 or more", 86, x.debts(0, NONE));
        c.due("29 14 or more", 14, x.debts(0, 0));
        c.due("28 two", 2, x.fell(0, 99, 45, false));
        c.due("29 14 to 23", 10, x.debts(0, NONE));
        c.due("29 the last", 23, x.debts(0, 9));
        c.due("29 of another all", 100, x.debts(1, NONE));
        c.due("30 four yes, six no", 99, x.ask(0, 43));
        c.due("30 out of bounds", NONE, x.ask(0, 100));
        c.due("30 out of bounds", NONE, x.ask(0, -1));
        c.due("30 no such", NONE, x.ask(3, 1));
        c.due("28 against it", 3, x.fell(0, 99, 40, false));
        c.due("29 none", 0, x.debts(0, NONE));
        c.due("30 nothing fits", NONE, x.ask(0, 43));
        for (int k = 4; k <= 10; k++) {
            c.due("28 more", k, x.fell(1, 0, 0, true));
        }
        c.due("28 there are ten", NONE, x.fell(1, 0, 0, true));
        c.due("28 ten", 10, x.count(8));
        RainOwed y = Checks.plain("si0;f;f");
        c.due("30 always yes", 0, y.ask(0, 0));
        c.due("30 ninety yes, ten no", 10, y.ask(0, 10));
    }

    private static void promises31And32Games() {
        RainOwed x = Checks.plain("si0d10;fo9n6w0v2;fo4n6w0v1;f");
        c.due("31 first", 12, x.game(0, 1, 6, 0, 0, 0));
        c.due("31 second", 0, x.game(0, 1, 6, 0, 0, 1));
        c.due("31 less x", 3, x.game(0, 1, 6, 5, 0, 0));
        c.due("31 the other has what is left", 2, x.game(0, 1, 6, 5, 0, 1));
        c.due("31 no such", HIDDEN, x.game(3, 1, 6, 0, 0, 0));
        c.due("31 no such", HIDDEN, x.game(0, -1, 6, 0, 0, 0));
        c.due("31 alike", HIDDEN, x.game(1, 1, 6, 0, 0, 0));
        c.due("31 rain", HIDDEN, x.game(0, 1, 100, 0, 0, 0));
        c.due("31 x", HIDDEN, x.game(0, 1, 6, 6, 0, 0));
        c.due("31 y", HIDDEN, x.game(0, 1, 6, 0, -1, 0));
        c.due("31 what", HIDDEN, x.game(0, 1, 6, 0, 0, 2));
        c.due("31 no more than is owed", 10, x.game(2, 0, 0, 5, 0, 0));
        c.due("31 drowned", 0, x.game(0, 1, 99, 0, 0, 0));
        c.due("31 drowned, less x", -2, x.game(0, 1, 99, 2, 0, 0));
        c.due("32 one", 1, x.rests(0, 1, 6, NONE));
        c.due("32 none forgives", 0, x.rests(0, 1, 6, 0));
        c.due("32 no such", NONE, x.rests(0, 1, 6, 1));
        c.due("32 no such", NONE, x.rests(0, 1, 6, -2));
        c.due("32 alike", NONE, x.rests(0, 0, 6, NONE));
        c.due("32 no such field", NONE, x.rests(0, 3, 6, NONE));
        c.due("32 rain", NONE, x.rests(0, 1, 100, NONE));
        RainOwed y = Checks.plain("si0d7;fo9n9w9v9;fo3n9w9v9");
        c.due("32 one", 1, y.rests(0, 1, 8, NONE));
        c.due("32 the first forgives so as not to drown", 40, y.rests(0, 1, 8, 0));
        c.due("32 the other way round", 4, y.rests(1, 0, 8, 0));
        c.due("31 apart", 9, y.field(0, 0));
    }

    private static void promise33Odds() {
        RainOwed x = Checks.plain(BASE);
        c.due("33 from 18 on", 820000, x.odds(0, 0, 99));
        c.due("33 one", 1000000, x.odds(0, 18, 18));
        c.due("33 none", 0, x.odds(0, 17, 17));
        c.due("33 cut", 333333, x.odds(0, 16, 18));
        c.due("33 a above b", NONE, x.odds(0, 5, 4));
        c.due("33 below", NONE, x.odds(0, -1, 4));
        c.due("33 beyond", NONE, x.odds(0, 0, 100));
        c.due("33 no such", NONE, x.odds(3, 0, 9));
    }

    private static void promises34And42Turn() {
        RainOwed x = Checks.plain("si5;fo1;fo4;fo9;fo4");
        int[] turn = {2, 1, 3, 0};
        for (int i = 0; i < 4; i++) {
            c.due("34 turn " + i, turn[i], x.turn(i));
        }
        c.due("34 no such", NONE, x.turn(4));
        c.due("34 no such", NONE, x.turn(-1));
        c.due("42 not the first", 0, x.forgiven(1));
        c.due("42 behind field 1", 5, x.forgiven(2));
        c.due("42 no such", NONE, x.forgiven(4));
        c.due("42 no such", NONE, x.forgiven(-1));
        RainOwed y = Checks.plain("si1;fo9;fo10");
        c.due("34 by interest", 1, y.turn(0));
        c.due("42 with interest", 1, y.forgiven(1));
        RainOwed z = Checks.plain("f;f");
        c.due("42 it would still be", NONE, z.forgiven(0));
        c.due("42 it is not", 0, z.forgiven(1));
        RainOwed w = Checks.plain("fo7;f");
        c.due("42 all of it is too little", NONE, w.forgiven(0));
        RainOwed v = Checks.plain("f;fo7");
        c.due("42 all of it", 7, v.forgiven(1));
    }

    private static void promises35To37Ahead() {
        RainOwed x = Checks.plain(BASE);
        int[] behindOne = {6, 9, 3};
        for (int f = 0; f < 3; f++) {
            c.due("35 now", x.field(f, 0), x.ahead(f, 0, 9));
            c.due("35 one year", behindOne[f], x.ahead(f, 1, 9));
        }
        int twenty = x.ahead(1, 20, 31);
        c.due("35 out of bounds", NONE, x.ahead(0, 31, 9));
        c.due("35 out of bounds", NONE, x.ahead(0, -1, 9));
        c.due("35 out of bounds", NONE, x.ahead(0, 1, 100));
        c.due("35 no such", NONE, x.ahead(3, 1, 9));
        c.due("35 most", true, x.ahead(0, 30, 9) >= 0);
        c.due("36 now", 0, x.even(2, 9));
        c.due("36 not within 60", NONE, x.even(0, 0));
        c.due("36 no such", NONE, x.even(3, 9));
        c.due("36 out of bounds", NONE, x.even(0, 100));
        c.due("37 at once", 1, x.together(30));
        c.due("37 never", NONE, x.together(0));
        c.due("37 out of bounds", NONE, x.together(-1));
        for (int k = 0; k < 20; k++) {
            x.year(31);
        }
        c.due("35 as it comes", x.field(1, 0), twenty);
        RainOwed y = Checks.plain("si0d99;fo4;fo0");
        Checks.law(y, "y:o>0?1");
        c.due("36 behind four", 4, y.even(0, 21));
        c.due("36 behind sixty", 60, Checks.withLaw("si0d99;fo60;f", "y:o>0?1").even(0, 21));
        c.due("36 not behind 61", NONE, Checks.withLaw("si0d99;fo61;f", "y:o>0?1").even(0, 21));
        c.due("37 behind sixty", 60, Checks.withLaw("si0d21;f;f;f", "y:t=59?1").together(62));
        c.due("37 not behind 61", NONE, Checks.withLaw("si0d21;f;f;f", "y:t=60?1").together(62));
        RainOwed z = Checks.plain("si9d12;fo4;f;fo4");
        c.due("37 later", first(z, 20), z.together(20));
    }

    private static int first(RainOwed x, int rain) {
        for (int k = 1; k <= 60; k++) {
            if (Integer.bitCount(x.drowns(rain)) >= 2) {
                for (int j = 1; j < k; j++) {
                    x.undo();
                }
                return k;
            }
            x.year(rain);
        }
        return NONE;
    }

    private static void promises38To41AsItIs() {
        RainOwed x = Checks.plain("sp3;fo10w7n7c9;fo5n8w2c3;fn8w2c3;fo1n1w9c50");
        int[] all = {1, 1, 0, 1, 16, 32, 6};
        for (int what = 0; what < all.length; what++) {
            c.due("38 all " + what, all[what], x.all(what));
        }
        c.due("38 no such", NONE, x.all(7));
        c.due("38 no such", NONE, x.all(-1));
        int[] shares = {62, 31, 0, 6};
        for (int f = 0; f < 4; f++) {
            c.due("39 shares " + f, shares[f], x.shares(f, 100));
        }
        c.due("39 most", 624, x.shares(0, 999));
        c.due("39 nothing", 0, x.shares(0, 0));
        c.due("39 out of bounds", NONE, x.shares(0, 1000));
        c.due("39 out of bounds", NONE, x.shares(0, -1));
        c.due("39 no such", NONE, x.shares(4, 1));
        c.due("39 none is owed", 0, Checks.plain("f;f").shares(0, 9));
        c.due("40 one", 15, x.buyers(1));
        c.due("40 three", 9, x.buyers(3));
        c.due("40 twenty", 0, x.buyers(20));
        c.due("40 out of bounds", NONE, x.buyers(0));
        c.due("40 out of bounds", NONE, x.buyers(21));
        RainOwed y = Checks.plain(BASE);
        c.due("41 dry", 27, y.harvest(9));
        c.due("41 wet", 18, y.harvest(30));
        c.due("41 out of bounds", NONE, y.harvest(100));
        c.due("41 out of bounds", NONE, y.harvest(-1));
        c.due("41 apart", 0, y.count(5));
    }

    private static void promises43And44Image() {
        RainOwed x = Checks.plain(BASE);
        c.due("44 none", NONE, x.back());
        x.year(9);
        x.price(7);
        c.due("43 image", 1, x.image());
        c.due("43 no act is gone", 2, x.count(10));
        x.undo();
        x.undo();
        x.year(77);
        x.year(30);
        x.hedge(0);
        c.due("44 back", 1, x.back());
        fields("44", x, new int[][] {{6, 6, 8, 32}, {9, 8, 0, 4}, {3, 6, 0, 15}});
        c.due("44 price", 7, x.rule(2));
        c.due("44 log", 1, x.count(9));
        c.due("44 log", 9, x.log(0, 0));
        c.due("44 no act", 0, x.count(10));
        c.due("44 no act", NONE, x.undo());
        x.year(5);
        c.due("44 again", 1, x.back());
        c.due("43 another", 1, x.image());
        x.year(5);
        c.due("43 instead", 2, x.image());
        x.year(5);
        c.due("44 the latest", 2, x.back());
        c.due("43 no plain", NONE, new RainOwed().image());
    }

    private static void promise45Count() {
        RainOwed x = Checks.plain(BASE);
        Checks.law(x, "y:1");
        Checks.law(x, "y:2");
        Checks.plan(x, "h0");
        x.heresy(6);
        x.year(9);
        x.price(9);
        x.fell(0, 1, 1, false);
        Checks.tell(x, "abc");
        int coins = x.field(0, 4) + x.field(1, 4) + x.field(2, 4);
        int[] counts = {3, 2, 1, 3, 1, 1, coins, 6, 1, 1, 2};
        for (int i = 0; i < counts.length; i++) {
            c.due("45 count " + i, counts[i], x.count(i));
        }
        c.due("45 others", HIDDEN, x.count(11));
        c.due("45 others", HIDDEN, x.count(-1));
    }
}
