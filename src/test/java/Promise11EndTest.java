/** The edges of promise 11: end. */
public final class Promise11EndTest {
    private static final int NONE = IfYouWill.NONE, OUTSIDE = IfYouWill.OUTSIDE;

    private Promise11EndTest() {
    }

    public static void main(String[] args) {
        outside();
        asking();
        noneSettled();
        oneSettled();
        theGreatestAndTheLeastOfAll();
        sumsAgainstNumbers();
        likeSums();
        onDayNine();
        Check.end("Promise11EndTest");
    }

    private static void ends(String what, IfYouWill x, int most, int least) {
        Check.due(what + ": the most", x.end(0), most);
        Check.due(what + ": the least", x.end(1), least);
    }

    private static void outside() {
        for (int what : Edges.beyond(0, 1)) {
            Edges.refused("end(" + what + ")", OUTSIDE, x -> x.end(what));
        }
    }

    private static void asking() {
        Edges.changeNothing("end", x -> {
            x.end(0);
            x.end(1);
        });
    }

    private static void noneSettled() {
        ends("none", Check.with("1 if not who 1", "1 if who 0"), NONE, NONE);
        Check.due("outside ahead of none", Check.with("1 if not who 1", "1 if who 0").end(2), OUTSIDE);
    }

    private static void oneSettled() {
        ends("a new one", new IfYouWill(), 0, 0);
        ends("all do 3", Check.with("3", "3", "3", "3", "3", "3"), 4095, 4095);
        ends("one alone", Check.with("2"), 2, 2);
    }

    private static void theGreatestAndTheLeastOfAll() {
        ends("round of six", Check.with("as 1", "as 2", "as 3", "as 4", "as 5", "as 0"), 4095, 0);
        ends("pairs", Check.with("as 1", "as 0", "as 3", "as 2"), 255, 0);
    }

    private static void sumsAgainstNumbers() {
        // settled are 2, 0 and 0, 1
        ends("the lesser number has the greater sum", Check.with("2 if not who 1", "1 if not who 0"), Check.row(2, 0), Check.row(0, 1));
        // settled are 1, 0 and 0, 2
        ends("the greater number has the greater sum", Check.with("1 if not who 1", "2 if not who 0"), Check.row(0, 2), Check.row(1, 0));
    }

    private static void likeSums() {
        ends("two alike", Check.with("1 if not who 1", "1 if not who 0"), Check.row(1, 0), Check.row(1, 0));
        // settled are 2, 0, 0 and 0, 2, 0 and 0, 0, 2
        String alone = "2 if not any 1";
        ends("three alike", Check.with(alone, alone, alone), Check.row(2, 0, 0), Check.row(2, 0, 0));
        // the greatest are 3, 0 and 0, 3; the least is 1, 1
        IfYouWill x = Check.with("3 if not who 1 else 1 if not who 1 gives 2", "3 if not who 0 else 1 if not who 0 gives 2");
        Check.due("three are settled", x.settled(NONE), 3);
        ends("two greatest ones", x, Check.row(3, 0), Check.row(1, 1));
        // the greatest is 2, 2; the least are 1, 0 and 0, 1
        x = Check.with("2 if who 1 gives 2 else 1 if not who 1", "2 if who 0 gives 2 else 1 if not who 0");
        Check.due("three of two least ones", x.settled(NONE), 3);
        ends("two least ones", x, Check.row(2, 2), Check.row(1, 0));
    }

    private static void onDayNine() {
        ends("on the last day", Check.with("3 if day 8 else 1", "2 if day 9"), Check.row(1, 2), Check.row(1, 2));
    }
}
