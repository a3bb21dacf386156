/** The edges of promise 1: a new object. */
public final class Promise01NewObjectTest {
    private static final int NONE = IfYouWill.NONE, UNKNOWN = IfYouWill.UNKNOWN, OUTSIDE = IfYouWill.OUTSIDE;

    private Promise01NewObjectTest() {
    }

    public static void main(String[] args) {
        fourPersons();
        rowsOfFour();
        eachTermIsZero();
        emptyText();
        noFault();
        noMoney();
        objectsApart();
        Check.end("Promise01NewObjectTest");
    }

    private static void fourPersons() {
        IfYouWill x = new IfYouWill();
        Check.due("four", x.count(0), 4);
        Check.due("the first", x.lets(0, 0, 1), 0);
        Check.due("the last", x.lets(3, 0, 1), 0);
        Check.due("one more", x.lets(4, 0, 1), UNKNOWN);
        Check.due("one below", x.lets(-1, 0, 1), UNKNOWN);
        Check.due("a set of all", x.possible(15, NONE), 256);
        Check.due("a set with one more", x.possible(16, NONE), UNKNOWN);
    }

    private static void rowsOfFour() {
        IfYouWill x = new IfYouWill();
        Check.due("the last row", x.lets(0, 255, 9), 0);
        Check.due("one more", x.lets(0, 256, 9), OUTSIDE);
    }

    private static void eachTermIsZero() {
        IfYouWill x = new IfYouWill();
        Check.due("one rule each", x.count(2), 4);
        Check.due("all grow", x.count(3), 4);
        for (int p = 0; p < 4; p++) {
            for (int row = 0; row < 256; row += 5) {
                Check.due("on the first day", x.lets(p, row, 1), 0);
                Check.due("on the last day", x.lets(p, row, 9), 0);
            }
        }
        Check.due("one settled row", x.settled(NONE), 1);
        Check.due("that of nothing", x.settled(0), 0);
    }

    private static void emptyText() {
        IfYouWill x = new IfYouWill();
        Check.due("no bytes", x.count(1), 0);
        Check.due("an empty text is a fault", x.term(0), -11);
        Check.due("at its end", x.fault(), 0);
        Check.due("the first byte", new IfYouWill().feed(1, '2'), 1);
    }

    private static void noFault() {
        Check.due("no fault as yet", new IfYouWill().fault(), NONE);
    }

    private static void noMoney() {
        IfYouWill x = new IfYouWill();
        for (int p = 0; p < 4; p++) {
            Check.due("no part", x.offer(p, 0, 1), 0);
            Check.due("no worth", x.offer(p, 1, 1), 0);
        }
    }

    private static void objectsApart() {
        IfYouWill older = new IfYouWill();
        IfYouWill x = Edges.lived();
        IfYouWill newer = new IfYouWill();
        Check.due("one has lived", x.count(2), 7);
        for (IfYouWill other : new IfYouWill[] {older, newer}) {
            Check.due("rules of another", other.count(2), 4);
            Check.due("bytes of another", other.count(1), 0);
            Check.due("fault of another", other.fault(), NONE);
            Check.due("money of another", other.offer(1, 0, 0), 0);
        }
    }
}
