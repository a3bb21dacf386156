/** The edges of promise 5: fault. */
public final class Promise05FaultTest {
    private static final int NONE = IfYouWill.NONE;

    private Promise05FaultTest() {
    }

    public static void main(String[] args) {
        noneAtFirst();
        theLatestOne();
        firstAndLastByte();
        notOfTheUnknown();
        nothingElseMovesIt();
        Check.end("Promise05FaultTest");
    }

    private static void noneAtFirst() {
        IfYouWill x = new IfYouWill();
        Check.due("no term as yet", x.fault(), NONE);
        Check.feed(x, "#");
        Check.due("a text that is no term as yet", x.fault(), NONE);
        x.term(9);
        Check.due("a term that is unknown alone", x.fault(), NONE);
    }

    private static void theLatestOne() {
        IfYouWill x = new IfYouWill();
        Check.tell(x, 0, "2 #");
        Check.due("a fault", x.fault(), 2);
        Check.due("asked again", x.fault(), 2);
        Check.tell(x, 1, "2 if #");
        Check.due("that of the latest, of another person", x.fault(), 5);
        Check.tell(x, 2, "2");
        Check.due("the latest has none", x.fault(), NONE);
        Check.tell(x, 0, "#");
        Check.due("a fault again", x.fault(), 0);
    }

    private static void firstAndLastByte() {
        IfYouWill x = new IfYouWill();
        x.term(0);
        Check.due("the end of an empty text", x.fault(), 0);
        Check.tell(x, 0, "#" + " ".repeat(119));
        Check.due("the first byte of a full one", x.fault(), 0);
        Check.tell(x, 0, "2" + " ".repeat(118) + "#");
        Check.due("its last byte", x.fault(), 119);
        Check.tell(x, 0, "2 if" + " ".repeat(116));
        Check.due("its end", x.fault(), 120);
    }

    private static void notOfTheUnknown() {
        for (int p : Edges.beyond(0, 3)) {
            IfYouWill x = new IfYouWill();
            Check.tell(x, 0, "2 #");
            Check.feed(x, "2");
            x.term(p);
            Check.due("it stays at a fault", x.fault(), 2);
            x.term(0);
            Check.feed(x, "#");
            x.term(p);
            Check.due("it stays at none", x.fault(), NONE);
        }
    }

    private static void nothingElseMovesIt() {
        IfYouWill x = new IfYouWill();
        Check.tell(x, 0, "2 #");
        x.feed(1, '2');
        Check.due("fed", x.fault(), 2);
        x.feed(9, '2');
        Check.due("fed outside", x.fault(), 2);
        x.persons(6);
        Check.due("other persons", x.fault(), 2);
        x.persons(7);
        Check.due("persons outside", x.fault(), 2);
        x.count(3);
        x.soft(NONE, 4095);
        x.sly(0, 18, 1);
        Check.due("asked for much", x.fault(), 2);
        Edges.changeNothing("fault()", IfYouWill::fault);
    }
}
