/** The edges of promise 9: judge. */
public final class Promise09JudgeTest {
    private static final int NONE = IfYouWill.NONE, OUTSIDE = IfYouWill.OUTSIDE;

    private Promise09JudgeTest() {
    }

    public static void main(String[] args) {
        outsideRows();
        outsideDays();
        asking();
        firstAndLastRow();
        firstAndLastDay();
        theFirstPerson();
        justWhatIsLet();
        Check.end("Promise09JudgeTest");
    }

    private static void outsideRows() {
        for (int row : Edges.beyond(0, 255)) {
            Edges.refused("judge(" + row + ", 9)", OUTSIDE, x -> x.judge(row, 9));
        }
    }

    private static void outsideDays() {
        for (int day : Edges.beyond(1, 9)) {
            Edges.refused("judge(0, " + day + ")", OUTSIDE, x -> x.judge(0, day));
        }
        Edges.refused("judge(256, 10)", OUTSIDE, x -> x.judge(256, 10));
    }

    private static void asking() {
        Edges.changeNothing("judge", x -> {
            for (int row = 0; row < 40; row++) {
                x.judge(row, 1 + row % 9);
            }
        });
    }

    private static void firstAndLastRow() {
        for (int n = 1; n <= 6; n++) {
            IfYouWill x = new IfYouWill();
            x.persons(n);
            Check.due("all do 0 of " + n, x.judge(0, 9), NONE);
            for (int p = 0; p < n; p++) {
                Check.tell(x, p, "3");
            }
            Check.due("all do 3 of " + n, x.judge(Edges.rows(n) - 1, 1), NONE);
            Check.due("one more than all of " + n, x.judge(Edges.rows(n), 1), OUTSIDE);
            Check.due("one below all of " + n, x.judge(-1, 1), OUTSIDE);
        }
    }

    private static void firstAndLastDay() {
        for (int told = 1; told <= 9; told++) {
            IfYouWill x = Check.with("0", "2 if day " + told);
            for (int day = 1; day <= 9; day++) {
                Check.due("day " + told + " on " + day, x.judge(Check.row(0, 2), day), day <= told ? NONE : 1);
                Check.due("day " + told + " on " + day + ", done nothing", x.judge(0, day), day <= told ? 1 : NONE);
            }
        }
    }

    private static void theFirstPerson() {
        IfYouWill x = Check.with("1", "1", "1", "1", "1", "1");
        for (int first = 0; first < 6; first++) {
            int row = 0x555;
            for (int p = first; p < 6; p++) {
                row -= 1 << 2 * p;
            }
            Check.due("all from " + first + " on do not", x.judge(row, 9), first);
            Check.due(first + " alone does not", x.judge(0x555 - (1 << 2 * first), 9), first);
        }
        Check.due("all do", x.judge(0x555, 9), NONE);
    }

    private static void justWhatIsLet() {
        IfYouWill x = Check.with("as 1 if day 9", "2");
        for (int deed = 0; deed <= 3; deed++) {
            Check.due("doing " + deed, x.judge(Check.row(deed, 2), 9), deed == 2 ? NONE : 0);
            Check.due("the other doing " + deed, x.judge(Check.row(deed, deed), 9), deed == 2 ? NONE : 1);
        }
    }
}
