/** The edges of promise 13: hangs. */
public final class Promise13HangsTest {
    private static final int UNKNOWN = IfYouWill.UNKNOWN, OUTSIDE = IfYouWill.OUTSIDE;

    private Promise13HangsTest() {
    }

    public static void main(String[] args) {
        unknown();
        outside();
        unknownAheadOfOutside();
        asking();
        onNobody();
        onAllOthers();
        neverOnOneself();
        neverOnOneThatThereIsNot();
        moreOrLess();
        firstAndLastRow();
        onDayNine();
        Check.end("Promise13HangsTest");
    }

    private static void unknown() {
        for (int p : Edges.beyond(0, 3)) {
            Edges.refused("hangs(" + p + ", 0)", UNKNOWN, x -> x.hangs(p, 0));
        }
    }

    private static void outside() {
        for (int row : Edges.beyond(0, 255)) {
            Edges.refused("hangs(0, " + row + ")", OUTSIDE, x -> x.hangs(0, row));
        }
    }

    private static void unknownAheadOfOutside() {
        Edges.refused("hangs(4, 256)", UNKNOWN, x -> x.hangs(4, 256));
        Edges.refused("hangs(-1, -1)", UNKNOWN, x -> x.hangs(-1, -1));
    }

    private static void asking() {
        Edges.changeNothing("hangs", x -> {
            for (int row = 0; row < 256; row += 9) {
                x.hangs(row % 4, row);
            }
        });
    }

    private static void onNobody() {
        for (String term : new String[] {"0", "3", "2 if day 9", "1 if any 0", "1 if sum 0 else most", "2 if sum 1 else 2"}) {
            Check.due("on nobody: " + term, Check.with(term, "0", "0").hangs(0, 0), 0);
        }
        Check.due("one alone", Check.with("least").hangs(0, 3), 0);
        Check.due("so many do that none is missed", Check.with("1 if any 1", "0", "0").hangs(0, Check.row(0, 1, 1)), 0);
        Check.due("so few do that none would help", Check.with("1 if any 2", "0", "0").hangs(0, 0), 0);
    }

    private static void onAllOthers() {
        for (int p = 0; p < 6; p++) {
            IfYouWill x = new IfYouWill();
            x.persons(6);
            Check.tell(x, p, "1 if any 1");
            Check.due("each could be the one, of " + p, x.hangs(p, 0), 63 - (1 << p));
            Check.tell(x, p, "1 if all");
            Check.due("each is needed, of " + p, x.hangs(p, 0x555), 63 - (1 << p));
        }
    }

    private static void neverOnOneself() {
        for (String term : new String[] {"as 1", "1 if who 1", "2 if who 1 gives 0", "1 if all of 1 to 1 give 3", "3 if any 1 of 1 to 1"}) {
            IfYouWill x = Check.with("0", term);
            for (int row = 0; row < 16; row++) {
                Check.due(term + " by " + row, x.hangs(1, row), 0);
            }
        }
    }

    private static void neverOnOneThatThereIsNot() {
        IfYouWill x = Check.with("as 2", "3 if who 2", "0");
        Check.due("on the last one", x.hangs(0, 0), 4);
        x = Check.with("as 2", "3 if who 2");
        Check.due("as one that there is not", x.hangs(0, 0), 0);
        Check.due("who of one that there is not", x.hangs(1, 0), 0);
    }

    private static void moreOrLess() {
        IfYouWill x = Check.with("1 if who 1 gives 3", "0");
        for (int deed = 0; deed <= 3; deed++) {
            Check.due("3 alone would do, at " + deed, x.hangs(0, Check.row(0, deed)), 2);
        }
        x = Check.with("1 if who 1", "0");
        for (int deed = 0; deed <= 3; deed++) {
            Check.due("0 alone would not, at " + deed, x.hangs(0, Check.row(0, deed)), 2);
        }
        x = Check.with("1 if who 1 and not who 1 gives 2", "0");
        for (int deed = 0; deed <= 3; deed++) {
            Check.due("1 alone would do, at " + deed, x.hangs(0, Check.row(0, deed)), 2);
        }
    }

    private static void firstAndLastRow() {
        for (int n = 2; n <= 6; n++) {
            IfYouWill x = new IfYouWill();
            x.persons(n);
            Check.tell(x, n - 1, "as 0");
            Check.due("the first row of " + n, x.hangs(n - 1, 0), 1);
            Check.due("the last row of " + n, x.hangs(n - 1, Edges.rows(n) - 1), 1);
            Check.due("one more than those of " + n, x.hangs(n - 1, Edges.rows(n)), OUTSIDE);
        }
    }

    private static void onDayNine() {
        Check.due("a day that is over", Check.with("as 1 if day 8", "0").hangs(0, 0), 0);
        Check.due("the last day", Check.with("as 1 if day 9", "0").hangs(0, 0), 2);
    }
}
