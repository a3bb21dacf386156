/** The edges of promise 23: sure. */
public final class Promise23SureTest {
    private static final int NONE = IfYouWill.NONE, UNKNOWN = IfYouWill.UNKNOWN;

    private Promise23SureTest() {
    }

    public static void main(String[] args) {
        unknownBits();
        unknownPersons();
        asking();
        eachDeed();
        nonePossible();
        justOnePossible();
        notTheSame();
        theSealedOne();
        asThePossibleRowsTell();
        onDayNine();
        Check.end("Promise23SureTest");
    }

    private static void unknownBits() {
        for (int set : Edges.beyond(0, 15)) {
            Edges.refused("sure(" + set + ", 0)", UNKNOWN, x -> x.sure(set, 0));
        }
        for (int bit = 4; bit <= 31; bit++) {
            int set = 1 << bit;
            Edges.refused("sure of bit " + bit, UNKNOWN, x -> x.sure(set | 1, 0));
        }
    }

    private static void unknownPersons() {
        for (int p : Edges.beyond(0, 3)) {
            Edges.refused("sure(1, " + p + ")", UNKNOWN, x -> x.sure(1, p));
            Edges.refused("sure(16, " + p + ")", UNKNOWN, x -> x.sure(16, p));
        }
        for (int n = 1; n <= 6; n++) {
            IfYouWill x = new IfYouWill();
            x.persons(n);
            Check.due("the last of " + n, x.sure(0, n - 1), 0);
            Check.due("one more than " + n, x.sure(0, n), UNKNOWN);
        }
    }

    private static void asking() {
        Edges.changeNothing("sure", x -> {
            for (int set = 0; set < 16; set++) {
                x.sure(set, set % 4);
            }
        });
    }

    private static void eachDeed() {
        for (int deed = 0; deed <= 3; deed++) {
            IfYouWill x = Check.with("" + deed, "0", "as 0");
            Check.due("sure of " + deed, x.sure(2, 0), deed);
            Check.due("sure by another of " + deed, x.sure(2, 2), deed);
            Check.due("the sealed one is not", x.sure(2, 1), NONE);
        }
    }

    private static void nonePossible() {
        IfYouWill x = Check.with("1 if not who 1", "1 if who 0", "2");
        for (int p = 0; p < 3; p++) {
            Check.due("nothing is sure where nothing is possible", x.sure(0, p), NONE);
            Check.due("nor with one that is sealed", x.sure(4, p), NONE);
        }
    }

    private static void justOnePossible() {
        IfYouWill x = Check.with("3", "2", "1", "0");
        for (int p = 0; p < 4; p++) {
            Check.due("one row", x.sure(0, p), 3 - p);
        }
    }

    private static void notTheSame() {
        IfYouWill x = Check.with("as 1", "as 0");
        Check.due("four rows that differ", x.sure(0, 0), NONE);
        // settled are 1, 0 and 0, 1
        x = Check.with("1 if not who 1", "1 if not who 0", "as 5");
        Check.due("two rows that differ", x.sure(0, 0), NONE);
        Check.due("two rows in which one does the same", x.sure(0, 2), 0);
        // the last of four rows alone differs
        x = Check.with("2 if not who 1 gives 3 else 1", "0");
        Check.due("the last differs", x.sure(2, 0), NONE);
        x = Check.with("2 if who 1 else 1", "0");
        Check.due("the first differs", x.sure(2, 0), NONE);
    }

    private static void theSealedOne() {
        // the others would go round and round, unless it does 3
        IfYouWill x = Check.with("0", "1 if not who 2 or who 0 gives 3", "1 if who 1 and not who 0 gives 3");
        Check.due("it must have done 3", x.sure(1, 0), 3);
        Check.due("all sealed: nothing is", x.sure(7, 0), NONE);
    }

    /** For each set and person: the deed that all possible rows have, if they have one. */
    private static void asThePossibleRowsTell() {
        for (int set = 0; set < 8; set++) {
            for (int p = 0; p < 3; p++) {
                IfYouWill x = Check.with("1 if any 1", "as 0 if who 2 else 1", "2 if not who 0 gives 2");
                int all = x.possible(set, NONE);
                int same = NONE;
                boolean sure = all > 0;
                for (int i = 0; i < all; i++) {
                    int deed = x.possible(set, i) >> 2 * p & 3;
                    sure &= i == 0 || deed == same;
                    same = deed;
                }
                Check.due("of " + p + " with " + set + " sealed", x.sure(set, p), sure ? same : NONE);
            }
        }
    }

    private static void onDayNine() {
        Check.due("on the last day", Check.with("3 if day 8 else 1", "2").sure(2, 0), 1);
    }
}
