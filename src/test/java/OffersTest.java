/** Promises 16 to 21: byDay, dares, offer, rests, leastTop, sly. */
public final class OffersTest {
    private static final int NONE = IfYouWill.NONE, UNKNOWN = IfYouWill.UNKNOWN, OUTSIDE = IfYouWill.OUTSIDE;

    private OffersTest() {
    }

    public static void main(String[] args) {
        byDay();
        dares();
        offer();
        rests();
        leastTop();
        sly();
        slyRoundAndRound();
        Check.end("OffersTest");
    }

    private static void byDay() {
        IfYouWill x = Check.with("2 if day 1 else 1 if day 4 else 3 if who 2", "as 0", "1 if not day 5 and sum 4");
        Check.due("none yet", x.byDay(0), 0);
        Check.due("day 1", x.byDay(1), Check.row(2, 0, 0));
        Check.due("never less", x.byDay(2), Check.row(2, 2, 0));
        Check.due("day 5", x.byDay(5), Check.row(2, 2, 0));
        Check.due("day 6", x.byDay(6), Check.row(2, 2, 1));
        Check.due("day 7", x.byDay(7), Check.row(3, 2, 1));
        Check.due("day 8", x.byDay(8), Check.row(3, 3, 1));
        Check.due("day 9", x.byDay(9), Check.row(3, 3, 1));
        Check.due("day 10", x.byDay(10), OUTSIDE);
        Check.due("day NONE", x.byDay(NONE), OUTSIDE);
    }

    private static void dares() {
        IfYouWill x = Check.with("1 if not day 8", "1 if who 3", "1 if sum 9", "2 if day 1");
        Check.due("on the last day", x.dares(0), 9);
        Check.due("the day after another", x.dares(1), 2);
        Check.due("never", x.dares(2), NONE);
        Check.due("on the first", x.dares(3), 1);
        Check.due("nobody", x.dares(4), UNKNOWN);
        Check.due("below all", x.dares(-1), UNKNOWN);
    }

    private static void offer() {
        IfYouWill x = Check.with("0", "0");
        Check.due("part", x.offer(0, 0, 99), 0);
        Check.due("worth", x.offer(0, 1, 98), 0);
        Check.due("of another", x.offer(1, 0, 1), 0);
        Check.due("unknown ahead of outside", x.offer(2, 2, 100), UNKNOWN);
        Check.due("unknown below", x.offer(-1, 0, 0), UNKNOWN);
        Check.due("what 2", x.offer(0, 2, 0), OUTSIDE);
        Check.due("what NONE", x.offer(0, NONE, 0), OUTSIDE);
        Check.due("v 100", x.offer(0, 0, 100), OUTSIDE);
        Check.due("v below 0", x.offer(0, 1, -1), OUTSIDE);
        Check.due("the part that was", x.offer(0, 0, 5), 99);
        Check.due("the worth that was", x.offer(0, 1, 0), 98);
        Check.due("the part of the other", x.offer(1, 0, 0), 1);
        Check.due("the part is 5 now", x.offer(0, 0, 5), 5);
    }

    private static void rests() {
        IfYouWill x = Check.dyke(10, 20, 10, 10, 10, 5);
        Check.due("nobody pledges, no top", x.rests(0, 20, 0), 1);
        Check.due("a top draws", x.rests(0, 20, 1), 0);
        Check.due("two who need each other", x.rests(3, 20, 0), 1);
        Check.due("one pays more than it is worth", x.rests(5, 20, 0), 0);
        Check.due("one too many", x.rests(7, 20, 0), 0);
        Check.due("one alone short of the goal", x.rests(1, 30, 0), 1);
        Check.due("one joins, it is worth as much: no more", x.rests(1, 20, 0), 1);
        Check.due("one would join", x.rests(2, 20, 0), 0);
        Check.due("all, with a top", x.rests(7, 31, 4), 1);
        Check.due("rather the top", x.rests(3, 20, 1), 1);
        Check.due("goal 1 is come to by one", x.rests(1, 1, 0), 1);
        Check.due("bits", x.rests(8, 20, 0), UNKNOWN);
        Check.due("bits below 0", x.rests(-1, 20, 0), UNKNOWN);
        Check.due("bits ahead of outside", x.rests(8, 0, 100), UNKNOWN);
        Check.due("goal 0", x.rests(0, 0, 0), OUTSIDE);
        Check.due("goal 501", x.rests(0, 501, 0), OUTSIDE);
        Check.due("goal 500", x.rests(0, 500, 0), 1);
        Check.due("top 100", x.rests(0, 20, 100), OUTSIDE);
        Check.due("top 99", x.rests(7, 500, 99), 1);
        Check.due("top below 0", x.rests(0, 20, -1), OUTSIDE);
    }

    private static void leastTop() {
        Check.due("a top of 1", Check.dyke(10, 20, 10, 20).leastTop(20), 1);
        Check.due("never come to", Check.dyke(10, 20, 10, 20).leastTop(21), NONE);
        Check.due("none is needed", Check.dyke(10, 20).leastTop(10), 0);
        Check.due("not worth it", Check.dyke(10, 9).leastTop(10), NONE);
        Check.due("just worth it: both rest without a top", Check.dyke(10, 10).leastTop(10), NONE);
        Check.due("worth 1 more", Check.dyke(10, 11).leastTop(10), 0);
        IfYouWill x = Check.dyke(10, 20);
        Check.due("goal 0", x.leastTop(0), OUTSIDE);
        Check.due("goal 501", x.leastTop(501), OUTSIDE);
        Check.due("goal 500", x.leastTop(500), NONE);
        Check.due("goal 1", x.leastTop(1), 0);
        Check.due("parts of 0 as well", Check.dyke(0, 0, 5, 9).leastTop(5), 0);
    }

    private static void sly() {
        IfYouWill x = Check.with("as 1", "as 2", "2");
        x.offer(0, 1, 50);
        x.offer(1, 1, 9);
        x.offer(2, 1, 40);
        Check.due("by less it has more", x.sly(0, 4, 0), 0);
        Check.due("what it has", x.sly(0, 4, 1), 1050);
        Check.due("it must for the aim", x.sly(0, 6, 0), 4);
        Check.due("what it has then", x.sly(0, 6, 1), 1030);
        Check.due("one more for the aim", x.sly(0, 7, 0), 3);
        Check.due("what that gives", x.sly(0, 7, 1), 1020);
        Check.due("too far", x.sly(0, 8, 0), 0);
        Check.due("nothing is left", x.sly(0, 8, 1), 1000);
        Check.due("all follow", x.sly(2, 6, 0), 4);
        Check.due("followed", x.sly(2, 6, 1), 1020);
        Check.due("not worth it", x.sly(1, 6, 0), 0);
        Check.due("an aim of 0", x.sly(1, 0, 1), 1009);
        Check.due("at rest where none does anything", Check.dyke(0, 5).sly(0, 0, 1), 1005);
        Check.due("of like ones the own one", Check.with("0").sly(0, 0, 0), 4);
        Check.due("the term is its own again", x.climb(0, 0, 0), 42);
        Check.due("unknown ahead of outside", x.sly(3, 19, 2), UNKNOWN);
        Check.due("unknown below", x.sly(-1, 0, 0), UNKNOWN);
        Check.due("aim 19", x.sly(0, 19, 0), OUTSIDE);
        Check.due("aim 18", x.sly(0, 18, 0), 0);
        Check.due("aim below 0", x.sly(0, -1, 0), OUTSIDE);
        Check.due("what 2", x.sly(0, 0, 2), OUTSIDE);
        Check.due("what NONE", x.sly(0, 0, NONE), OUTSIDE);
    }

    private static void slyRoundAndRound() {
        IfYouWill x = Check.with("1 if not who 1", "1 if who 0");
        x.offer(0, 1, 30);
        Check.due("at rest it has more", x.sly(0, 1, 0), 1);
        Check.due("than nothing", x.sly(0, 1, 1), 1020);
        Check.due("never at rest: nothing, like 0", x.sly(0, 5, 0), 4);
        Check.due("nothing", x.sly(0, 5, 1), 1000);
        x = Check.with("3", "as 0");
        x.offer(0, 1, 0);
        Check.due("the own one is below 0", x.sly(0, 0, 0), 0);
        Check.due("not told below 0", x.sly(0, 0, 1), 1000);
        x = Check.with("1", "1 if not who 0 gives 2 else 2");
        x.offer(0, 1, 99);
        Check.due("of like ones the least", x.sly(0, 1, 0), 0);
        Check.due("from all 3", Check.with("1", "as 1").sly(1, 0, 0), 4);
        x = Check.with("3 if who 1 gives 3", "3 if who 0 gives 3");
        x.offer(0, 1, 90);
        Check.due("climbing from the top", x.sly(0, 6, 0), 4);
        Check.due("and having it", x.sly(0, 6, 1), 1060);
    }
}
