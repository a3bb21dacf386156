/** Promises 9 to 12: judge, settled, end, climb. */
public final class SettledTest {
    private static final int NONE = IfYouWill.NONE, OUTSIDE = IfYouWill.OUTSIDE;

    private SettledTest() {
    }

    public static void main(String[] args) {
        judge();
        settled();
        end();
        climbToRest();
        climbRoundAndRound();
        climbRefusals();
        termsThatChange();
        Check.end("SettledTest");
    }

    private static void judge() {
        IfYouWill x = Check.with("1 if day 4", "as 0", "2 if who 1");
        Check.due("settled on day 4", x.judge(Check.row(1, 1, 2), 4), NONE);
        Check.due("not on day 5", x.judge(Check.row(1, 1, 2), 5), 0);
        Check.due("the second", x.judge(Check.row(0, 1, 2), 9), 1);
        Check.due("the third", x.judge(Check.row(1, 1, 3), 1), 2);
        Check.due("more than is let", x.judge(Check.row(2, 2, 2), 1), 0);
        Check.due("the row 0", x.judge(0, 9), NONE);
        Check.due("a row below 0", x.judge(-1, 9), OUTSIDE);
        Check.due("a row too far", x.judge(64, 9), OUTSIDE);
        Check.due("day 0", x.judge(0, 0), OUTSIDE);
        Check.due("day 10", x.judge(0, 10), OUTSIDE);
    }

    private static void settled() {
        IfYouWill x = Check.with("as 1", "as 0");
        Check.due("how many", x.settled(NONE), 4);
        for (int i = 0; i < 4; i++) {
            Check.due("the i-th", x.settled(i), 5 * i);
        }
        Check.due("none such", x.settled(4), NONE);
        Check.due("far from such", x.settled(Integer.MAX_VALUE), NONE);
        Check.due("below NONE", x.settled(-2), NONE);
        Check.due("far below", x.settled(Integer.MIN_VALUE), NONE);
        x = Check.with("3 if day 8", "2 if day 9");
        Check.due("on the last day", x.settled(0), Check.row(0, 2));
        x = Check.with("1 if not who 1", "1 if who 0");
        Check.due("none at all", x.settled(NONE), 0);
        Check.due("no first one", x.settled(0), NONE);
        x = Check.with("as 1", "as 2", "as 3", "as 4", "as 5", "as 0");
        Check.due("of six", x.settled(NONE), 4);
        Check.due("the last of six", x.settled(3), 4095);
    }

    private static void end() {
        IfYouWill x = Check.with("as 1", "as 0");
        Check.due("most", x.end(0), 15);
        Check.due("least", x.end(1), 0);
        Check.due("what 2", x.end(2), OUTSIDE);
        Check.due("what NONE", x.end(NONE), OUTSIDE);
        x = Check.with("1 if not who 1", "1 if not who 0");
        Check.due("two of a sum: the most", x.end(0), 1);
        Check.due("two of a sum: the least", x.end(1), 1);
        x = Check.with("2 if not who 1", "1 if not who 0");
        Check.due("a greater sum with a lesser number", x.end(0), 2);
        Check.due("a lesser sum with a greater number", x.end(1), 4);
        x = Check.with("1 if not who 1", "1 if who 0");
        Check.due("no most", x.end(0), NONE);
        Check.due("no least", x.end(1), NONE);
    }

    private static void climbToRest() {
        IfYouWill x = Check.with("2", "as 0", "as 1");
        Check.due("at once: rest", x.climb(0, 0, 0), 42);
        Check.due("at once: steps", x.climb(0, 0, 1), 3);
        Check.due("at once: rows", x.climb(0, 0, 2), 1);
        Check.due("one by one: rest", x.climb(0, 1, 0), 42);
        Check.due("one by one: steps", x.climb(0, 1, 1), 1);
        Check.due("one by one: rows", x.climb(0, 1, 2), 1);
        Check.due("at rest from the start", x.climb(42, 0, 1), 0);
        Check.due("from the top", x.climb(63, 0, 1), 3);
        x = Check.with("as 1", "as 2", "2");
        Check.due("in turn against the numbers", x.climb(0, 1, 1), 3);
        x = Check.with("1 if day 8", "2 if day 9");
        Check.due("on the last day", x.climb(15, 0, 0), 8);
    }

    private static void climbRoundAndRound() {
        IfYouWill x = Check.with("as 1", "as 0");
        Check.due("swapping never rests", x.climb(1, 0, 0), NONE);
        Check.due("swapping: steps ahead", x.climb(1, 0, 1), 0);
        Check.due("swapping: rows", x.climb(1, 0, 2), 2);
        Check.due("one by one it rests", x.climb(1, 1, 0), 0);
        x = Check.with("3 if who 2 else 1 if not who 1", "1 if who 0", "0");
        int top = Check.row(3, 3, 3);
        Check.due("round and round", x.climb(top, 0, 0), NONE);
        Check.due("two steps ahead", x.climb(top, 0, 1), 2);
        Check.due("four rows", x.climb(top, 0, 2), 4);
        Check.due("one by one two rows", x.climb(top, 1, 2), 2);
        Check.due("one by one never rests", x.climb(top, 1, 0), NONE);
        x = Check.with("as 1", "as 2", "as 3", "as 4", "as 5", "1 if who 0 and not who 1 or who 1 and not who 0");
        Check.due("a long round", x.climb(1, 0, 2), 63);
        Check.due("straight into it", x.climb(1, 0, 1), 0);
        Check.due("one step ahead of it", x.climb(3, 0, 1), 1);
        Check.due("six steps ahead of it", x.climb(4095, 0, 1), 6);
        Check.due("as long from there", x.climb(4095, 0, 2), 63);
        Check.due("never at rest", x.climb(4095, 0, 0), NONE);
    }

    private static void climbRefusals() {
        IfYouWill x = Check.with("1", "2");
        Check.due("a row below 0", x.climb(-1, 0, 0), OUTSIDE);
        Check.due("a row too far", x.climb(16, 0, 0), OUTSIDE);
        Check.due("way 2", x.climb(0, 2, 0), OUTSIDE);
        Check.due("way NONE", x.climb(0, NONE, 0), OUTSIDE);
        Check.due("what 3", x.climb(0, 0, 3), OUTSIDE);
        Check.due("what NONE", x.climb(0, 0, NONE), OUTSIDE);
        Check.due("the last of all", x.climb(15, 1, 2), 1);
    }

    /** What has been found of a term may not outlive it, nor the number of persons. */
    private static void termsThatChange() {
        IfYouWill x = Check.with("1", "most");
        Check.due("before", x.settled(0), 5);
        Check.tell(x, 0, "2");
        Check.due("after a new term", x.settled(0), 10);
        x.grows(1, 3, NONE);
        Check.tell(x, 1, "1 if day 3");
        Check.due("on another day", x.grows(1, 3, NONE), 1);
        Check.due("and on the last", x.settled(0), 2);
        x.persons(3);
        Check.due("all new", x.settled(0), 0);
        Check.tell(x, 2, "least");
        Check.due("of three", x.settled(NONE), 1);
        x.persons(2);
        Check.tell(x, 0, "3 if any 1");
        Check.tell(x, 1, "2");
        Check.due("of two", x.settled(0), 11);
    }
}
