/** The edges of promise 17: dares. */
public final class Promise17DaresTest {
    private static final int NONE = IfYouWill.NONE, UNKNOWN = IfYouWill.UNKNOWN;

    private Promise17DaresTest() {
    }

    public static void main(String[] args) {
        unknown();
        asking();
        eachDay();
        never();
        oneAfterAnother();
        theFirstDayStays();
        Check.end("Promise17DaresTest");
    }

    private static void unknown() {
        for (int p : Edges.beyond(0, 3)) {
            Edges.refused("dares(" + p + ")", UNKNOWN, x -> x.dares(p));
        }
        for (int n = 1; n <= 6; n++) {
            IfYouWill x = new IfYouWill();
            x.persons(n);
            Check.tell(x, n - 1, "1");
            Check.due("the last of " + n, x.dares(n - 1), 1);
            Check.due("one more than " + n, x.dares(n), UNKNOWN);
        }
    }

    private static void asking() {
        Edges.changeNothing("dares", x -> {
            for (int p = 0; p < 4; p++) {
                x.dares(p);
            }
        });
    }

    private static void eachDay() {
        Check.due("on day 1", Check.with("1").dares(0), 1);
        for (int over = 1; over <= 8; over++) {
            Check.due("when day " + over + " is over", Check.with("1 if not day " + over).dares(0), over + 1);
        }
    }

    private static void never() {
        Check.due("a new one", new IfYouWill().dares(0), NONE);
        Check.due("day 9 is never over", Check.with("1 if not day 9").dares(0), NONE);
        IfYouWill x = Check.with("as 1", "as 0");
        Check.due("each waits for the other", x.dares(0), NONE);
        Check.due("the other waits, too", x.dares(1), NONE);
    }

    private static void oneAfterAnother() {
        IfYouWill x = Check.with("as 1", "as 2", "as 3", "as 4", "as 5", "3 if not day 3");
        for (int p = 0; p < 6; p++) {
            Check.due("of " + p, x.dares(p), 9 - p);
        }
        x = Check.with("as 1", "as 2", "as 3", "as 4", "as 5", "3 if not day 4");
        Check.due("too late for the first", x.dares(0), NONE);
        Check.due("just in time for the second", x.dares(1), 9);
    }

    private static void theFirstDayStays() {
        Check.due("what it does on day 1 alone", Check.with("2 if day 1").dares(0), 1);
        Check.due("the least deed is something", Check.with("1 if day 2 else 3").dares(0), 1);
    }
}
