/** The edges of promise 2: persons. */
public final class Promise02PersonsTest {
    private static final int UNKNOWN = IfYouWill.UNKNOWN, OUTSIDE = IfYouWill.OUTSIDE;

    private Promise02PersonsTest() {
    }

    public static void main(String[] args) {
        oneToSix();
        outside();
        asManyBeginAnew();
        nothingComesBack();
        whatIsNotNamedStays();
        Check.end("Promise02PersonsTest");
    }

    private static void oneToSix() {
        for (int n = 1; n <= 6; n++) {
            IfYouWill x = Edges.lived();
            Check.due("persons(" + n + ")", x.persons(n), n);
            Check.due("so many of " + n, x.count(0), n);
            Check.due("one rule each of " + n, x.count(2), n);
            Check.due("the last of " + n, x.lets(n - 1, 0, 1), 0);
            Check.due("one more than " + n, x.lets(n, 0, 1), UNKNOWN);
            Check.due("the last row of " + n, x.judge(Edges.rows(n) - 1, 9), 0);
            Check.due("one row more than those of " + n, x.judge(Edges.rows(n), 9), OUTSIDE);
            Check.due("a set of all " + n, x.rests((1 << n) - 1, 1, 0), 1);
            Check.due("a set of one more than " + n, x.rests(1 << n, 1, 0), UNKNOWN);
        }
    }

    private static void outside() {
        for (int n : Edges.beyond(1, 6)) {
            Edges.refused("persons(" + n + ")", OUTSIDE, x -> x.persons(n));
        }
        Edges.refused("persons(NONE)", OUTSIDE, x -> x.persons(IfYouWill.NONE));
    }

    private static void asManyBeginAnew() {
        IfYouWill x = Edges.lived();
        Check.due("as many as there are", x.persons(4), 4);
        Check.due("one rule each", x.count(2), 4);
        for (int p = 0; p < 4; p++) {
            Check.due("the term is 0 by the least row", x.lets(p, 0, 1), 0);
            Check.due("the term is 0 by the greatest", x.lets(p, 255, 9), 0);
            Check.due("the part is 0", x.offer(p, 0, 0), 0);
            Check.due("the worth is 0", x.offer(p, 1, 0), 0);
        }
        Check.due("what is settled is new, too", x.settled(0), 0);
    }

    private static void nothingComesBack() {
        IfYouWill x = Check.with("3", "3", "3", "3", "3", "3 else 3");
        for (int p = 0; p < 6; p++) {
            x.offer(p, 0, 99);
            x.offer(p, 1, 99);
        }
        Check.due("all do 3", x.settled(0), 4095);
        x.persons(1);
        Check.due("one alone does 0", x.settled(0), 0);
        x.persons(6);
        Check.due("rules", x.count(2), 6);
        Check.due("no deeds", x.settled(0), 0);
        for (int p = 0; p < 6; p++) {
            Check.due("term", x.lets(p, 0, 9), 0);
            Check.due("part", x.offer(p, 0, 0), 0);
            Check.due("worth", x.offer(p, 1, 0), 0);
        }
    }

    private static void whatIsNotNamedStays() {
        IfYouWill x = Edges.lived();
        x.persons(4);
        Check.due("the byte of the fault", x.fault(), 8);
        Check.due("the bytes of the text", x.count(1), 18);
        Check.due("it becomes a term", x.term(0), 1);
        Check.due("as it was fed", x.lets(0, Check.row(0, 0, 0, 2), 9), 2);
        Check.due("no more, no less", x.lets(0, Check.row(0, 0, 0, 1), 9), 0);
    }
}
