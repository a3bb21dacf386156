/** The edges of promise 8: grows. */
public final class Promise08GrowsTest {
    private static final int NONE = IfYouWill.NONE, UNKNOWN = IfYouWill.UNKNOWN, OUTSIDE = IfYouWill.OUTSIDE;

    private Promise08GrowsTest() {
    }

    public static void main(String[] args) {
        unknown();
        outside();
        unknownAheadOfOutside();
        asking();
        firstAndLastDay();
        noneIfItGrows();
        oneAlone();
        firstAndLastRow();
        ownDeedZero();
        theFirstRow();
        theLeastOther();
        lessByOneMore();
        Check.end("Promise08GrowsTest");
    }

    private static void grows(String what, IfYouWill x, int p, int row, int by) {
        Check.due(what + ": grows", x.grows(p, 9, NONE), row == NONE ? 1 : 0);
        Check.due(what + ": the row", x.grows(p, 9, 0), row);
        Check.due(what + ": by whom", x.grows(p, 9, 1), by);
    }

    private static void unknown() {
        for (int p : Edges.beyond(0, 3)) {
            Edges.refused("grows(" + p + ", 9, 0)", UNKNOWN, x -> x.grows(p, 9, 0));
        }
    }

    private static void outside() {
        for (int day : Edges.beyond(1, 9)) {
            Edges.refused("grows(0, " + day + ", 0)", OUTSIDE, x -> x.grows(0, day, 0));
        }
        for (int what : Edges.beyond(NONE, 1)) {
            Edges.refused("grows(0, 9, " + what + ")", OUTSIDE, x -> x.grows(0, 9, what));
        }
    }

    private static void unknownAheadOfOutside() {
        Edges.refused("grows(4, 0, 0)", UNKNOWN, x -> x.grows(4, 0, 0));
        Edges.refused("grows(-1, 9, 2)", UNKNOWN, x -> x.grows(-1, 9, 2));
    }

    private static void asking() {
        Edges.changeNothing("grows", x -> {
            for (int p = 0; p < 4; p++) {
                x.grows(p, 1, NONE);
                x.grows(p, 5, 0);
                x.grows(p, 9, 1);
            }
        });
    }

    private static void firstAndLastDay() {
        IfYouWill x = Check.with("1 if not (who 1 or day 1)", "2 if day 8 else 1 if not who 0");
        for (int day = 1; day <= 9; day++) {
            Check.due("the first on " + day, x.grows(0, day, NONE), day == 1 ? 1 : 0);
            Check.due("its row on " + day, x.grows(0, day, 0), day == 1 ? NONE : 0);
            Check.due("its other one on " + day, x.grows(0, day, 1), day == 1 ? NONE : 1);
            Check.due("the second on " + day, x.grows(1, day, NONE), day == 9 ? 0 : 1);
            Check.due("the row of the second on " + day, x.grows(1, day, 0), day == 9 ? 0 : NONE);
        }
    }

    private static void noneIfItGrows() {
        for (String term : new String[] {"0", "3", "as 1", "least", "most", "1 if any 2 give 2", "3 if sum 4 else 1 if all"}) {
            grows(term, Check.with(term, "0", "0"), 0, NONE, NONE);
        }
    }

    private static void oneAlone() {
        grows("one alone", Check.with("3 if not sum 1 else 1"), 0, NONE, NONE);
    }

    private static void firstAndLastRow() {
        grows("at the row 0, of two", Check.with("1 if not who 1", "0"), 0, 0, 1);
        grows("at the row 0, of six", Check.with("0", "0", "0", "0", "0", "1 if not any 1"), 5, 0, 0);
        // of the rows that lack but one, the least is that in which the last person lacks it
        IfYouWill x = Check.with("3 if not sum 15", "0", "0", "0", "0", "0");
        grows("at the last rows", x, 0, Check.row(0, 3, 3, 3, 3, 2), 5);
        grows("by the last deed alone", Check.with("1 if not who 1 gives 3", "0"), 0, Check.row(0, 2), 1);
    }

    /** The row has 0 for the own deed, where that is not the least place, too. */
    private static void ownDeedZero() {
        for (int p = 0; p < 3; p++) {
            IfYouWill x = new IfYouWill();
            x.persons(3);
            Check.tell(x, p, "1 if not sum 6");
            int[] deeds = {3, 3, 3};
            deeds[p] = 0;
            int last = p == 2 ? 1 : 2;
            deeds[last] = 2;
            grows("of " + p, x, p, Check.row(deeds), last);
        }
    }

    private static void theFirstRow() {
        IfYouWill x = Check.with("1 if not (who 1 gives 3 or who 2 gives 1)", "0", "0");
        grows("the row 0 is the first", x, 0, 0, 2);
        x = Check.with("1 if not (who 1 gives 3 or who 2 gives 2)", "0", "0");
        grows("2 of 1 comes ahead of 1 of 2", x, 0, Check.row(0, 2, 0), 1);
        x = Check.with("2 if who 2 and not who 1 else 1", "0", "0");
        grows("one that slips but to 1", x, 0, Check.row(0, 0, 1), 1);
    }

    private static void theLeastOther() {
        String not = "2 if not any 1";
        grows("the first itself", Check.with(not, "0", "0"), 0, 0, 1);
        grows("one beside the first", Check.with("0", not, "0"), 1, 0, 0);
        grows("the first does not count", Check.with("0", "2 if not any 1 of 1 to 2", "0"), 1, 0, 2);
        grows("two at the same row", Check.with("0", "0", "0", "0", "2 if not any 1 of 2 to 5", "0"), 4, 0, 2);
    }

    private static void lessByOneMore() {
        grows("as much is not less", Check.with("2 if not who 1 else 2", "0"), 0, NONE, NONE);
        grows("more is not less", Check.with("1 if not who 1 else 2", "0"), 0, NONE, NONE);
        grows("one less", Check.with("2 if not who 1 else 1", "0"), 0, 0, 1);
        grows("more, then less", Check.with("1 if not who 1 else 3 if not who 1 gives 3 else 2", "0"), 0, Check.row(0, 2), 1);
    }
}
