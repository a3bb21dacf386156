/** Promises 22 to 24: possible, sure, telling. */
public final class SealedTest {
    private static final int NONE = IfYouWill.NONE, UNKNOWN = IfYouWill.UNKNOWN, NOT = IfYouWill.NOT;

    private SealedTest() {
    }

    public static void main(String[] args) {
        possible();
        sure();
        telling();
        Check.end("SealedTest");
    }

    private static void possible() {
        IfYouWill x = Check.with("1 if who 1", "2 if who 2", "as 0");
        Check.due("none sealed is settled", x.possible(0, NONE), x.settled(NONE));
        Check.due("the first of none sealed", x.possible(0, 0), 0);
        Check.due("two of none sealed: 1, 2, 1", x.possible(0, 1), Check.row(1, 2, 1));
        Check.due("no third", x.possible(0, 2), NONE);
        Check.due("2 sealed", x.possible(4, NONE), 4);
        Check.due("2 sealed, doing 0", x.possible(4, 0), 0);
        Check.due("2 sealed, doing 2", x.possible(4, 2), Check.row(1, 2, 2));
        Check.due("all sealed", x.possible(7, NONE), 64);
        Check.due("all sealed, the last", x.possible(7, 63), 63);
        Check.due("all sealed, one more", x.possible(7, 64), NONE);
        Check.due("below NONE", x.possible(7, -2), NONE);
        Check.due("bits", x.possible(8, NONE), UNKNOWN);
        Check.due("bits below 0", x.possible(-1, NONE), UNKNOWN);
        Check.due("far bits", x.possible(1 << 30, 0), UNKNOWN);
        x = Check.with("1 if not who 1", "1 if who 0");
        Check.due("none possible", x.possible(0, NONE), 0);
        Check.due("no first one", x.possible(0, 0), NONE);
        x = Check.with("1 if day 8", "2");
        Check.due("on the last day", x.possible(2, 1), 4);
    }

    private static void sure() {
        IfYouWill x = Check.with("1 if any 0", "2 if who 2", "3", "as 3");
        Check.due("sure whoever is sealed", x.sure(8, 0), 1);
        Check.due("sure by another", x.sure(8, 1), 2);
        Check.due("the sealed one is not", x.sure(8, 3), NONE);
        Check.due("what hangs on the sealed", x.sure(4, 1), NONE);
        Check.due("not sure by the row 0", Check.with("1 if who 1", "1 if who 0").sure(0, 0), NONE);
        Check.due("sure as 0", Check.with("0", "1").sure(2, 0), 0);
        Check.due("none is possible", Check.with("1 if not who 1", "1 if who 0").sure(0, 0), NONE);
        Check.due("by rules about oneself", Check.with("1 if not who 1 else 2 if not who 0", "3").sure(0, 0), 2);
        Check.due("a sealed one that is sure", Check.with("1 if who 1 else 1", "2 if who 1", "as 0").sure(1, 1), 0);
        Check.due("bits", x.sure(16, 0), UNKNOWN);
        Check.due("bits below 0", x.sure(-1, 0), UNKNOWN);
        Check.due("nobody", x.sure(0, 4), UNKNOWN);
        Check.due("below all", x.sure(0, -1), UNKNOWN);
        x = Check.with("1 if not who 1 else 2 if not who 0", "as 1 if who 1 else 0");
        Check.due("unsealed 0 is sure", x.sure(0, 0), 1);
    }

    private static void telling() {
        IfYouWill x = Check.with("1 if who 1", "2 if who 2", "as 0");
        Check.due("of one alone", x.telling(4, 2), 4 - 2);
        Check.due("of all", x.telling(7, 1), 64 - 16);
        Check.due("it is not sealed", x.telling(4, 0), NOT);
        Check.due("none is", x.telling(0, 0), NOT);
        Check.due("bits ahead of not", x.telling(8, 0), UNKNOWN);
        Check.due("bits below 0", x.telling(-1, 0), UNKNOWN);
        Check.due("nobody", x.telling(7, 3), UNKNOWN);
        Check.due("below all", x.telling(7, -1), UNKNOWN);
        x = Check.with("0", "0", "0", "0", "0", "0");
        Check.due("of six", x.telling(63, 5), 4096 - 1024);
        Check.due("the last one", x.telling(32, 5), 3);
    }
}
