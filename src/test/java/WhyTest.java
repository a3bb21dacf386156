/** Promises 13 to 15: hangs, leaving, soft. */
public final class WhyTest {
    private static final int NONE = IfYouWill.NONE, UNKNOWN = IfYouWill.UNKNOWN, OUTSIDE = IfYouWill.OUTSIDE;

    private WhyTest() {
    }

    public static void main(String[] args) {
        hangs();
        leaving();
        softOfOne();
        softIsForToldNumbers();
        softOfAll();
        Check.end("WhyTest");
    }

    private static void hangs() {
        IfYouWill x = Check.with("2 if any 2", "as 1", "1 if who 0 gives 3 or who 3 gives 2", "most");
        Check.due("on nobody yet", x.hangs(0, 0), 0);
        Check.due("one more would do", x.hangs(0, Check.row(0, 1, 0, 0)), 12);
        Check.due("each of two", x.hangs(0, Check.row(0, 1, 1, 0)), 6);
        Check.due("three do: on none", x.hangs(0, Check.row(0, 1, 1, 1)), 0);
        Check.due("not on oneself", x.hangs(1, 255), 0);
        Check.due("on either", x.hangs(2, 0), 9);
        Check.due("on the one that does", x.hangs(2, Check.row(3, 0, 0, 0)), 1);
        Check.due("a lower deed, too", x.hangs(3, Check.row(3, 3, 0, 0)), 0);
        Check.due("the most of all", x.hangs(3, Check.row(3, 0, 0, 0)), 1);
        Check.due("unknown ahead of outside", x.hangs(4, 256), UNKNOWN);
        Check.due("unknown below", x.hangs(-1, 0), UNKNOWN);
        Check.due("a row too far", x.hangs(0, 256), OUTSIDE);
        Check.due("a row below 0", x.hangs(0, -1), OUTSIDE);
        x = Check.with("1 if day 8 and who 1", "0");
        Check.due("on the last day", x.hangs(0, 0), 0);
        Check.due("on the last day, whatever is done", x.hangs(0, 4), 0);
    }

    private static void leaving() {
        IfYouWill x = Check.with("2", "as 0", "as 1", "3 if not who 0");
        Check.due("all fall", x.leaving(0, Check.row(2, 2, 2, 0)), 100 + 6 - 3);
        Check.due("one falls", x.leaving(2, Check.row(2, 2, 2, 0)), 100 + 2);
        Check.due("it may be below 0", x.leaving(0, 0), 100 - 3);
        Check.due("nothing is lost", x.leaving(3, Check.row(2, 2, 2, 0)), 100);
        Check.due("the term is its own again", x.climb(0, 0, 0), Check.row(2, 2, 2, 0));
        x = Check.with("as 1", "as 0", "1");
        Check.due("round and round", x.leaving(2, Check.row(1, 0, 1)), NONE);
        Check.due("one leaves", x.leaving(1, Check.row(1, 0, 1)), 100 + 1);
        Check.due("unknown ahead of outside", x.leaving(3, 64), UNKNOWN);
        Check.due("unknown below", x.leaving(-1, 0), UNKNOWN);
        Check.due("a row too far", x.leaving(0, 64), OUTSIDE);
        Check.due("a row below 0", x.leaving(0, -1), OUTSIDE);
        x = Check.with("2 if any 5", "3", "3", "3", "3", "3");
        Check.due("one of six goes", x.leaving(5, 4094), 100 + 17 - 12);
        Check.due("the most below 0", x.leaving(0, 0), 100 - 15);
    }

    private static void softOfOne() {
        IfYouWill x = Check.with("3 if any 2 give 2", "2 if sum 5 else 1 if day 9 and who 0 gives 3", "1", "0");
        Check.due("none needed", x.soft(0, Check.row(3, 2, 2, 0)), 0);
        Check.due("any 1 give 2", x.soft(0, Check.row(3, 2, 1, 0)), 1);
        Check.due("any 2 give 1, by one, too", x.soft(0, Check.row(3, 1, 1, 0)), 1);
        Check.due("any 1 give 1", x.soft(0, Check.row(3, 1, 0, 0)), 2);
        Check.due("any 0, or give 0", x.soft(0, Check.row(3, 0, 0, 0)), 2);
        Check.due("never by softening", x.soft(0, Check.row(2, 0, 0, 0)), NONE);
        Check.due("not less than is let", x.soft(0, Check.row(0, 3, 3, 3)), NONE);
        Check.due("sum 2", x.soft(1, Check.row(2, 2, 0, 0)), 3);
        Check.due("sum 1 would be four", x.soft(1, Check.row(1, 2, 0, 0)), NONE);
        Check.due("gives 1 in the latter rule", x.soft(1, Check.row(1, 1, 0, 0)), 2);
        Check.due("day 8 holds no more", x.soft(1, Check.row(3, 0, 0, 0)), 1);
        Check.due("much is not touched", x.soft(2, 0), NONE);
        Check.due("the term is as it was", x.lets(0, Check.row(0, 2, 1, 0), 9), 0);
        Check.due("it is as it was, told again", x.soft(0, Check.row(3, 1, 0, 0)), 2);
        Check.due("unknown ahead of outside", x.soft(4, 256), UNKNOWN);
        Check.due("unknown below NONE", x.soft(-2, 0), UNKNOWN);
        Check.due("a row too far", x.soft(0, 256), OUTSIDE);
        Check.due("a row below 0", x.soft(0, -1), OUTSIDE);
    }

    private static void softIsForToldNumbers() {
        IfYouWill x = Check.with("1 if who 1", "1 if all", "1 if any 1", "as 3 if who 1 gives 1");
        Check.due("who without gives", x.soft(0, Check.row(1, 0, 0, 0)), NONE);
        Check.due("all without give", x.soft(1, Check.row(0, 1, 0, 0)), NONE);
        Check.due("any has its own number", x.soft(2, Check.row(0, 0, 1, 0)), 1);
        Check.due("the P of as is not touched", x.soft(3, Check.row(0, 0, 1, 1)), NONE);
        x = Check.with("0", "1 if all of 2 to 3 give 1", "1 if who 1 gives 3", "2 if not day 1");
        Check.due("the P of to is not touched", x.soft(1, Check.row(0, 1, 3, 0)), 1);
        Check.due("nor of who", x.soft(2, Check.row(3, 0, 1, 0)), 3);
        Check.due("day is not below 1", x.soft(3, Check.row(0, 0, 0, 0)), NONE);
        x = Check.with("1 if sum 1 and any 1 and all give 1", "0");
        Check.due("three numbers by one each", x.soft(0, 1), 3);
        x = Check.with("1 if sum 1 and any 1 and all give 1 and who 1 gives 1", "0");
        Check.due("four are too many", x.soft(0, 1), NONE);
        x = Check.with("1 if not any 0", "0");
        Check.due("not below 0", x.soft(0, 1), NONE);
        x = Check.with("1 if not day 9", "0");
        Check.due("a day less, and it is no more", x.soft(0, 1), 1);
    }

    private static void softOfAll() {
        IfYouWill x = Check.with("1 if sum 2", "1 if sum 3", "1 if any 3");
        Check.due("none needed", x.soft(NONE, 0), 0);
        Check.due("added up", x.soft(NONE, Check.row(1, 1, 1)), 2);
        Check.due("one is NONE", x.soft(NONE, Check.row(1, 1, 2)), NONE);
        Check.due("one and two", x.soft(NONE, Check.row(1, 1, 0)), 3);
        Check.due("a row too far", x.soft(NONE, 64), OUTSIDE);
        x = Check.with("1 if sum 5", "1 if sum 5", "1 if sum 5");
        Check.due("three times three", x.soft(NONE, Check.row(1, 1, 1)), 9);
    }
}
