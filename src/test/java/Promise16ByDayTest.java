/** The edges of promise 16: byDay. */
public final class Promise16ByDayTest {
    private static final int OUTSIDE = IfYouWill.OUTSIDE;

    private Promise16ByDayTest() {
    }

    public static void main(String[] args) {
        outside();
        asking();
        dayZero();
        dayOne();
        dayNine();
        onThatDay();
        neverLess();
        byWhatWasDoneUpToThen();
        Check.end("Promise16ByDayTest");
    }

    private static void days(String what, IfYouWill x, int... rows) {
        for (int day = 0; day <= 9; day++) {
            Check.due(what + " by day " + day, x.byDay(day), rows[Math.min(day, rows.length - 1)]);
        }
    }

    private static void outside() {
        for (int day : Edges.beyond(0, 9)) {
            Edges.refused("byDay(" + day + ")", OUTSIDE, x -> x.byDay(day));
        }
    }

    private static void asking() {
        Edges.changeNothing("byDay", x -> {
            for (int day = 0; day <= 9; day++) {
                x.byDay(day);
            }
        });
    }

    private static void dayZero() {
        Check.due("none yet", Check.with("3", "3", "3", "3", "3", "3").byDay(0), 0);
    }

    private static void dayOne() {
        Check.due("all on the first day", Check.with("3", "3", "3", "3", "3", "3").byDay(1), 4095);
        days("nothing at all", new IfYouWill(), 0);
    }

    private static void dayNine() {
        IfYouWill x = Check.with("2 if not day 8", "as 0");
        Check.due("not by day 8", x.byDay(8), 0);
        Check.due("by day 9", x.byDay(9), Check.row(2, 0));
    }

    private static void onThatDay() {
        for (int told = 1; told <= 8; told++) {
            IfYouWill x = Check.with("1 if day " + told + " else 3");
            for (int day = 1; day <= 9; day++) {
                Check.due("day " + told + " by " + day, x.byDay(day), day <= told ? 1 : 3);
            }
        }
    }

    private static void neverLess() {
        days("3, then it would be less", Check.with("3 if day 1 else 1"), 0, 3);
        days("1, then nothing, then 2", Check.with("1 if day 1 else 2 if not day 4"), 0, 1, 1, 1, 1, 2);
        days("when others do more", Check.with("2 if not who 1", "1 if who 0"), 0, Check.row(2, 0), Check.row(2, 1));
    }

    private static void byWhatWasDoneUpToThen() {
        days("each by the one ahead", Check.with("1", "as 0", "as 1", "as 2", "as 3", "as 4"), 0, 1, 5, 21, 85, 341, 1365);
        days("each by the one behind", Check.with("as 1", "as 2", "1"), 0, 16, 20, 21);
        // on day 2 the second still sees 0 of the first
        days("at once", Check.with("1 if not day 1", "2 if not who 0 and not day 1"), 0, 0, Check.row(1, 2));
    }
}
