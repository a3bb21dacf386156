/** The edges of promise 24: telling. */
public final class Promise24TellingTest {
    private static final int UNKNOWN = IfYouWill.UNKNOWN, NOT = IfYouWill.NOT;

    private Promise24TellingTest() {
    }

    public static void main(String[] args) {
        unknownBits();
        unknownPersons();
        notSealed();
        unknownAheadOfNot();
        asking();
        fewerByNone();
        theMostFewer();
        theLastOneOpened();
        onDayNine();
        Check.end("Promise24TellingTest");
    }

    private static void unknownBits() {
        for (int set : Edges.beyond(0, 15)) {
            Edges.refused("telling(" + set + ", 0)", UNKNOWN, x -> x.telling(set, 0));
        }
        for (int bit = 4; bit <= 31; bit++) {
            int set = 1 << bit;
            Edges.refused("telling of bit " + bit, UNKNOWN, x -> x.telling(set | 1, 0));
        }
    }

    private static void unknownPersons() {
        for (int p : Edges.beyond(0, 3)) {
            Edges.refused("telling(15, " + p + ")", UNKNOWN, x -> x.telling(15, p));
        }
        for (int n = 1; n <= 6; n++) {
            IfYouWill x = new IfYouWill();
            x.persons(n);
            Check.due("the last of " + n, x.telling((1 << n) - 1, n - 1), Edges.rows(n) / 4 * 3);
            Check.due("one more than " + n, x.telling((1 << n) - 1, n), UNKNOWN);
        }
    }

    private static void notSealed() {
        for (int p = 0; p < 4; p++) {
            int one = p;
            Edges.refused("telling(0, " + p + ")", NOT, x -> x.telling(0, one));
            Edges.refused("telling of all but " + p, NOT, x -> x.telling(15 - (1 << one), one));
        }
    }

    private static void unknownAheadOfNot() {
        Edges.refused("telling(16, 0)", UNKNOWN, x -> x.telling(16, 0));
        Edges.refused("telling(0, 4)", UNKNOWN, x -> x.telling(0, 4));
        Edges.refused("telling(16, 4)", UNKNOWN, x -> x.telling(16, 4));
        Edges.refused("telling(-1, 0)", UNKNOWN, x -> x.telling(-1, 0));
        Edges.refused("telling(0, 32)", UNKNOWN, x -> x.telling(0, 32));
    }

    private static void asking() {
        Edges.changeNothing("telling", x -> {
            for (int set = 0; set < 16; set++) {
                x.telling(set, set % 4);
            }
        });
    }

    private static void fewerByNone() {
        IfYouWill x = Check.with("1 if not who 1", "1 if who 0", "0");
        Check.due("nothing is possible either way", x.telling(4, 2), 0);
        Check.due("four are, then none", x.telling(1, 0), 4);
    }

    private static void theMostFewer() {
        IfYouWill x = Check.with("0", "0", "0", "0", "0", "0");
        for (int p = 0; p < 6; p++) {
            Check.due("the first of six to be opened: " + p, x.telling(63, p), 3072);
            Check.due("the last of six: " + p, x.telling(1 << p, p), 3);
        }
    }

    private static void theLastOneOpened() {
        IfYouWill x = Check.with("as 1", "as 0");
        Check.due("it does as the other does anyway", x.telling(1, 0), 0);
        Check.due("both, then one", x.telling(3, 0), 12);
        Check.due("one of two that hang on nobody", Check.with("2", "3").telling(1, 0), 3);
        Check.due("one alone", Check.with("2").telling(1, 0), 3);
    }

    private static void onDayNine() {
        Check.due("on the last day", Check.with("3 if day 8 else 1", "as 0 if day 8").telling(1, 0), 3);
        Check.due("on the last day it is as 0", Check.with("as 1 if day 8", "1 if not who 0").telling(1, 0), 3);
    }
}
