/** The edges of promise 10: settled. */
public final class Promise10SettledTest {
    private static final int NONE = IfYouWill.NONE;

    private Promise10SettledTest() {
    }

    public static void main(String[] args) {
        noneAtAll();
        justOne();
        many();
        belowNone();
        onDayNine();
        oneAlone();
        asking();
        Check.end("Promise10SettledTest");
    }

    private static void noneAtAll() {
        IfYouWill x = Check.with("1 if not who 1", "1 if who 0");
        Check.due("how many", x.settled(NONE), 0);
        Check.due("the first", x.settled(0), NONE);
        Check.due("the second", x.settled(1), NONE);
    }

    private static void justOne() {
        IfYouWill x = Check.with("3", "3", "3", "3", "3", "3");
        Check.due("how many", x.settled(NONE), 1);
        Check.due("the first is the last row", x.settled(0), 4095);
        Check.due("no second", x.settled(1), NONE);
        x = new IfYouWill();
        Check.due("how many of a new one", x.settled(NONE), 1);
        Check.due("the first is the row 0", x.settled(0), 0);
        Check.due("no second of a new one", x.settled(1), NONE);
    }

    private static void many() {
        IfYouWill x = Check.with("as 1", "as 0", "as 3", "as 2", "as 5", "as 4");
        Check.due("how many", x.settled(NONE), 64);
        for (int i = 0; i < 64; i++) {
            int row = 5 * (i % 4) + 5 * 16 * (i / 4 % 4) + 5 * 256 * (i / 16);
            Check.due("in their order " + i, x.settled(i), row);
        }
        Check.due("no more", x.settled(64), NONE);
        Check.due("far from any", x.settled(Integer.MAX_VALUE), NONE);
        Check.due("as many as there are rows", x.settled(4096), NONE);
    }

    private static void belowNone() {
        IfYouWill x = Check.with("as 1", "as 0");
        Check.due("just below NONE", x.settled(-2), NONE);
        Check.due("far below NONE", x.settled(Integer.MIN_VALUE), NONE);
        Check.due("the number of a refusal", x.settled(IfYouWill.UNKNOWN), NONE);
    }

    private static void onDayNine() {
        IfYouWill x = Check.with("3 if day 8 else 1", "2 if day 9");
        Check.due("how many", x.settled(NONE), 1);
        Check.due("as on the last day", x.settled(0), Check.row(1, 2));
    }

    private static void oneAlone() {
        for (String term : new String[] {"as 0", "least", "most", "as 5", "3 if sum 1"}) {
            IfYouWill x = Check.with(term);
            Check.due("one alone: " + term, x.settled(NONE), 1);
            Check.due("does nothing: " + term, x.settled(0), 0);
        }
        Check.due("one alone does 3", Check.with("3 if all").settled(0), 3);
    }

    private static void asking() {
        Edges.changeNothing("settled", x -> {
            x.settled(NONE);
            x.settled(0);
            x.settled(-2);
            x.settled(999);
        });
    }
}
