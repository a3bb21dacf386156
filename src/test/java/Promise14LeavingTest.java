/** The edges of promise 14: leaving. */
public final class Promise14LeavingTest {
    private static final int NONE = IfYouWill.NONE, UNKNOWN = IfYouWill.UNKNOWN, OUTSIDE = IfYouWill.OUTSIDE;

    private Promise14LeavingTest() {
    }

    public static void main(String[] args) {
        unknown();
        outside();
        unknownAheadOfOutside();
        asking();
        nothingIsLost();
        theMostIsLost();
        belowZero();
        roundAndRound();
        atOnceNotOneByOne();
        itsOwnTermAgain();
        onDayNine();
        Check.end("Promise14LeavingTest");
    }

    private static void unknown() {
        for (int p : Edges.beyond(0, 3)) {
            Edges.refused("leaving(" + p + ", 0)", UNKNOWN, x -> x.leaving(p, 0));
        }
    }

    private static void outside() {
        for (int row : Edges.beyond(0, 255)) {
            Edges.refused("leaving(0, " + row + ")", OUTSIDE, x -> x.leaving(0, row));
        }
    }

    private static void unknownAheadOfOutside() {
        Edges.refused("leaving(4, 256)", UNKNOWN, x -> x.leaving(4, 256));
        Edges.refused("leaving(-1, -1)", UNKNOWN, x -> x.leaving(-1, -1));
    }

    private static void asking() {
        Edges.changeNothing("leaving", x -> {
            for (int row = 0; row < 256; row += 9) {
                x.leaving(row % 4, row);
            }
        });
    }

    private static void nothingIsLost() {
        Check.due("nothing was done", new IfYouWill().leaving(0, 0), 100);
        Check.due("one did nothing", Check.with("0", "2").leaving(0, Check.row(0, 2)), 100);
        Check.due("another does what one did", Check.with("2", "2 if not who 0").leaving(0, Check.row(2, 0)), 100);
    }

    private static void theMostIsLost() {
        IfYouWill x = Check.with("3", "as 0", "as 0", "as 0", "as 0", "as 0");
        Check.due("all by one", x.leaving(0, 4095), 118);
        Check.due("one by itself", x.leaving(1, 4095), 103);
        Check.due("one of one", Check.with("3").leaving(0, 3), 103);
        Check.due("what the row had, not what would be done", Check.with("1").leaving(0, 3), 103);
        Check.due("the first row has nothing to lose", x.leaving(0, 0), 100);
    }

    private static void belowZero() {
        IfYouWill x = Check.with("0", "3", "3", "3", "3", "3");
        Check.due("the most that comes", x.leaving(0, 0), 85);
        Check.due("one less", x.leaving(0, Check.row(1, 0, 0, 0, 0, 0)), 86);
        Check.due("by one", Check.with("1", "2 if not who 0").leaving(0, Check.row(1, 0)), 99);
    }

    private static void roundAndRound() {
        IfYouWill x = Check.with("as 1", "as 0", "2");
        Check.due("two change places", x.leaving(2, Check.row(1, 0, 2)), NONE);
        Check.due("two rest", x.leaving(2, Check.row(1, 1, 2)), 102);
        Check.due("one of the two leaves", x.leaving(0, Check.row(1, 0, 2)), 101);
        Check.due("rounds that its leaving begins", Check.with("1", "1 if not (who 0 or who 2)", "1 if who 1").leaving(0, 1), NONE);
    }

    private static void atOnceNotOneByOne() {
        IfYouWill x = Check.with("as 1", "as 0", "0");
        Check.due("one by one it would rest", x.climb(1, 1, 0), 0);
        Check.due("at once it does not", x.leaving(2, 1), NONE);
    }

    private static void itsOwnTermAgain() {
        IfYouWill x = Check.with("2", "as 0");
        Check.due("it leaves", x.leaving(0, Check.row(2, 2)), 104);
        Check.due("its term is its own", x.lets(0, 0, 9), 2);
        Check.due("and all climb by it", x.climb(0, 0, 0), Check.row(2, 2));
        Check.due("its rules as well", x.count(2), 2);
        Check.due("it leaves again", x.leaving(0, Check.row(2, 2)), 104);
    }

    private static void onDayNine() {
        Check.due("on the last day", Check.with("0", "3 if day 8 else 1").leaving(0, 0), 99);
    }
}
