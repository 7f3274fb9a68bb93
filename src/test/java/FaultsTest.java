import java.util.Random;

/** Faults of drawn texts, whole and spoilt, against the grammar's rules. */
public final class FaultsTest {
    public static void main(String[] args) {
        Checks c = new Checks();
        Random random = new Random(7);
        Texts texts = new Texts(random);
        Grammar plains = Grammar.ofPlains();
        Grammar laws = Grammar.ofLaws();
        Grammar plans = Grammar.ofPlans();
        int whole = 0;
        RainOwed x = new RainOwed();
        for (int k = 0; k < 9000; k++) {
            int sort = k % 3;
            String text = texts.of(sort);
            if (random.nextInt(3) > 0) {
                text = texts.spoilt(text, 1 + random.nextInt(3));
            }
            int want = sort == 0 ? Grammar.faultOfPlain(plains, text)
                : sort == 1 ? laws.faultOf(text) : plans.faultOf(text);
            whole += want < 0 ? 1 : 0;
            c.due("fault(" + sort + ") of '" + text + "'", want, Checks.tell(x, text).fault(sort));
        }
        c.due("many whole ones", true, whole > 2000);
        c.due("many wrong ones", true, whole < 7000);
        c.close("FaultsTest");
    }
}
