/** The edges of promise 18: offer. */
public final class Promise18OfferTest {
    private static final int UNKNOWN = IfYouWill.UNKNOWN, OUTSIDE = IfYouWill.OUTSIDE;

    private Promise18OfferTest() {
    }

    public static void main(String[] args) {
        unknown();
        outside();
        unknownAheadOfOutside();
        zeroAtFirst();
        zeroToNinetyNine();
        apart();
        termsStay();
        Check.end("Promise18OfferTest");
    }

    private static void unknown() {
        for (int p : Edges.beyond(0, 3)) {
            Edges.refused("offer(" + p + ", 0, 7)", UNKNOWN, x -> x.offer(p, 0, 7));
            Edges.refused("offer(" + p + ", 1, 7)", UNKNOWN, x -> x.offer(p, 1, 7));
        }
    }

    private static void outside() {
        for (int what : Edges.beyond(0, 1)) {
            Edges.refused("offer(0, " + what + ", 7)", OUTSIDE, x -> x.offer(0, what, 7));
        }
        for (int v : Edges.beyond(0, 99)) {
            Edges.refused("offer(0, 0, " + v + ")", OUTSIDE, x -> x.offer(0, 0, v));
            Edges.refused("offer(0, 1, " + v + ")", OUTSIDE, x -> x.offer(0, 1, v));
        }
    }

    private static void unknownAheadOfOutside() {
        Edges.refused("offer(4, 2, 7)", UNKNOWN, x -> x.offer(4, 2, 7));
        Edges.refused("offer(-1, 0, 100)", UNKNOWN, x -> x.offer(-1, 0, 100));
    }

    private static void zeroAtFirst() {
        for (int n = 1; n <= 6; n++) {
            IfYouWill x = new IfYouWill();
            x.persons(n);
            for (int p = 0; p < n; p++) {
                Check.due("part of " + p, x.offer(p, 0, 1), 0);
                Check.due("worth of " + p, x.offer(p, 1, 1), 0);
            }
            Check.due("one more than " + n, x.offer(n, 0, 1), UNKNOWN);
        }
    }

    private static void zeroToNinetyNine() {
        for (int what = 0; what <= 1; what++) {
            IfYouWill x = new IfYouWill();
            Check.due("99", x.offer(0, what, 99), 0);
            Check.due("0 behind 99", x.offer(0, what, 0), 99);
            Check.due("1 behind 0", x.offer(0, what, 1), 0);
            Check.due("the same again", x.offer(0, what, 1), 1);
            Check.due("98", x.offer(0, what, 98), 1);
            Check.due("98 it was", x.offer(0, what, 0), 98);
        }
    }

    private static void apart() {
        IfYouWill x = new IfYouWill();
        x.persons(6);
        for (int p = 0; p < 6; p++) {
            x.offer(p, 0, 10 + p);
            x.offer(p, 1, 20 + p);
        }
        for (int p = 0; p < 6; p++) {
            Check.due("the part of " + p, x.offer(p, 0, 0), 10 + p);
            Check.due("the worth of " + p, x.offer(p, 1, 0), 20 + p);
        }
    }

    private static void termsStay() {
        IfYouWill x = Check.with("2", "as 0");
        x.offer(0, 0, 99);
        x.offer(0, 1, 99);
        Check.due("what is settled stays", x.settled(0), Check.row(2, 2));
        Check.tell(x, 0, "3");
        Check.due("a new term leaves the part", x.offer(0, 0, 0), 99);
        Check.due("and the worth", x.offer(0, 1, 0), 99);
    }
}
