/** The edges of promise 22: possible. */
public final class Promise22PossibleTest {
    private static final int NONE = IfYouWill.NONE, UNKNOWN = IfYouWill.UNKNOWN;

    private Promise22PossibleTest() {
    }

    public static void main(String[] args) {
        unknownBits();
        asking();
        nobodySealed();
        allSealed();
        noneSuch();
        eachOneSealed();
        nonePossible();
        onDayNine();
        Check.end("Promise22PossibleTest");
    }

    private static void unknownBits() {
        for (int set : Edges.beyond(0, 15)) {
            for (int i : new int[] {NONE, 0, -2, Integer.MAX_VALUE}) {
                Edges.refused("possible(" + set + ", " + i + ")", UNKNOWN, x -> x.possible(set, i));
            }
        }
        for (int bit = 4; bit <= 31; bit++) {
            int set = 1 << bit;
            Edges.refused("possible of bit " + bit, UNKNOWN, x -> x.possible(set | 1, NONE));
        }
        for (int n = 1; n <= 6; n++) {
            IfYouWill x = new IfYouWill();
            x.persons(n);
            Check.due("the last of " + n, x.possible(1 << n - 1, NONE), 4);
            Check.due("one more than " + n, x.possible(1 << n, NONE), UNKNOWN);
        }
    }

    private static void asking() {
        Edges.changeNothing("possible", x -> {
            for (int set = 0; set < 16; set++) {
                x.possible(set, NONE);
                x.possible(set, set);
            }
        });
    }

    private static void nobodySealed() {
        IfYouWill x = Check.with("as 1", "as 0", "as 3", "as 2");
        for (int i = -3; i <= 17; i++) {
            Check.due("as what is settled: " + i, x.possible(0, i), x.settled(i));
        }
        Check.due("how many", x.possible(0, NONE), 16);
        Check.due("the last", x.possible(0, 15), 255);
    }

    private static void allSealed() {
        for (int n = 1; n <= 6; n++) {
            IfYouWill x = new IfYouWill();
            x.persons(n);
            int all = (1 << n) - 1;
            Check.due("all rows of " + n, x.possible(all, NONE), Edges.rows(n));
            Check.due("the first of " + n, x.possible(all, 0), 0);
            Check.due("one of them of " + n, x.possible(all, 2), 2);
            Check.due("the last of " + n, x.possible(all, Edges.rows(n) - 1), Edges.rows(n) - 1);
            Check.due("one more of " + n, x.possible(all, Edges.rows(n)), NONE);
        }
    }

    private static void noneSuch() {
        IfYouWill x = Check.with("as 1", "as 0");
        Check.due("how many", x.possible(1, NONE), 4);
        Check.due("the last", x.possible(1, 3), 15);
        Check.due("one more", x.possible(1, 4), NONE);
        Check.due("far more", x.possible(1, Integer.MAX_VALUE), NONE);
        Check.due("below NONE", x.possible(1, -2), NONE);
        Check.due("far below NONE", x.possible(1, Integer.MIN_VALUE), NONE);
    }

    private static void eachOneSealed() {
        for (int p = 0; p < 6; p++) {
            IfYouWill x = Check.with("3", "3", "3", "3", "3", "3");
            int one = 1 << 2 * p;
            Check.due("four rows by " + p, x.possible(1 << p, NONE), 4);
            for (int deed = 0; deed <= 3; deed++) {
                Check.due(p + " doing " + deed, x.possible(1 << p, deed), 4095 - (3 - deed) * one);
            }
            Check.due("all others sealed but " + p, x.possible(63 - (1 << p), NONE), 1024);
            Check.due("the first of them", x.possible(63 - (1 << p), 0), 3 * one);
        }
    }

    private static void nonePossible() {
        IfYouWill x = Check.with("1 if not who 1", "1 if who 0", "0");
        for (int set : new int[] {0, 4}) {
            Check.due("none", x.possible(set, NONE), 0);
            Check.due("no first", x.possible(set, 0), NONE);
        }
        Check.due("one that is sealed makes some", x.possible(2, NONE), 4);
    }

    private static void onDayNine() {
        IfYouWill x = Check.with("3 if day 8 else 1", "2 if day 9", "0");
        Check.due("on the last day", x.possible(4, NONE), 4);
        Check.due("the last of them", x.possible(4, 3), Check.row(1, 2, 3));
    }
}
