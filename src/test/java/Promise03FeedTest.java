/** The edges of promise 3: feed. */
public final class Promise03FeedTest {
    private static final int UNKNOWN = IfYouWill.UNKNOWN, OUTSIDE = IfYouWill.OUTSIDE, FULL = IfYouWill.FULL;

    private Promise03FeedTest() {
    }

    public static void main(String[] args) {
        oneToEight();
        outside();
        theHighestFirst();
        behindTheText();
        everyByte();
        justFull();
        fullForSome();
        outsideAheadOfFull();
        roomAgain();
        Check.end("Promise03FeedTest");
    }

    /** A text of so many blanks. */
    private static IfYouWill filled(int bytes) {
        IfYouWill x = new IfYouWill();
        Check.due("a text of " + bytes, Check.feed(x, " ".repeat(bytes)), bytes);
        return x;
    }

    private static void oneToEight() {
        for (int n = 1; n <= 8; n++) {
            IfYouWill x = new IfYouWill();
            Check.due("feed of " + n, x.feed(n, Check.packed(" ".repeat(7) + "3")), n);
            Check.due("so many bytes", x.count(1), n);
            Check.due("the lowest is the last of " + n, x.term(0), 1);
            Check.due("it is 3", x.lets(0, 0, 9), 3);
        }
    }

    private static void outside() {
        for (int n : Edges.beyond(1, 8)) {
            Edges.refused("feed(" + n + ", ..)", OUTSIDE, x -> x.feed(n, Check.packed("        ")));
        }
    }

    private static void theHighestFirst() {
        for (int n = 3; n <= 8; n++) {
            IfYouWill x = new IfYouWill();
            x.feed(n, Check.packed("#######2" + " ".repeat(n - 2) + "9"));
            Check.due("of " + n + " the highest is a 2 that can stand", x.term(0), -11);
            Check.due("and the lowest is one number too many", x.fault(), n - 1);
        }
        IfYouWill x = new IfYouWill();
        x.feed(8, Check.packed("2 else 3"));
        Check.due("eight in their order", x.term(0), 2);
        Check.due("the first is the highest", x.lets(0, 0, 9), 2);
        x.feed(3, Check.packed("least3 1"));
        Check.due("of three the highest is the third from below", x.term(0), -11);
        Check.due("then a blank, then a 1", x.fault(), 2);
        x.feed(1, Check.packed("#######3"));
        Check.due("what stands above does not come", x.term(0), 1);
        Check.due("it is the 3 alone", x.lets(0, 0, 9), 3);
    }

    private static void behindTheText() {
        IfYouWill x = new IfYouWill();
        Check.due("one", x.feed(1, '2'), 1);
        Check.due("and four", x.feed(4, Check.packed("else")), 5);
        Check.due("and one", x.feed(1, '3'), 6);
        Check.due("two rules", x.term(0), 2);
        Check.due("the first came first", x.lets(0, 0, 9), 2);
    }

    /** All 256 come into the text; most of them can stand nowhere, and are found there. */
    private static void everyByte() {
        for (int b = 0; b < 256; b++) {
            IfYouWill x = new IfYouWill();
            Check.due("byte " + b, x.feed(1, b), 1);
            Check.due("byte " + b + " of a long below 0", x.feed(8, (long) b << 56 | 0x20202020202020L), 9);
        }
        IfYouWill x = new IfYouWill();
        Check.due("the least long", x.feed(8, Long.MIN_VALUE), 8);
        Check.due("the greatest long", x.feed(8, Long.MAX_VALUE), 16);
        Check.due("128 is no sign", x.term(0), -11);
        x.feed(2, Check.packed("2") << 8 | 0xa0);
        Check.due("160 is no blank", x.term(0), -11);
        Check.due("it is found where it stands", x.fault(), 1);
    }

    private static void justFull() {
        for (int n = 1; n <= 8; n++) {
            int more = n;
            Check.due("just full by " + n, filled(120 - n).feed(n, 0), 120);
            Edges.refused("one too many of " + n, FULL, () -> filled(121 - more), x -> x.feed(more, 0));
            Edges.refused("full, and " + n, FULL, () -> filled(120), x -> x.feed(more, 0));
        }
    }

    private static void fullForSome() {
        IfYouWill x = filled(113);
        Check.due("eight are too many", x.feed(8, Check.packed("22222222")), FULL);
        Check.due("none of them came", x.count(1), 113);
        Check.due("seven fit", x.feed(7, Check.packed("     21")), 120);
        Check.due("they are behind the 113", x.term(0), -12);
        Check.due("where they stand", x.fault(), 118);
    }

    private static void outsideAheadOfFull() {
        for (int n : Edges.beyond(1, 8)) {
            Edges.refused("feed(" + n + ", ..) of a full one", OUTSIDE, () -> filled(120), x -> x.feed(n, 0));
        }
    }

    private static void roomAgain() {
        IfYouWill x = filled(120);
        Check.due("a term of nobody makes no room", x.term(4), UNKNOWN);
        Check.due("still full", x.feed(1, '2'), FULL);
        Check.due("other persons make no room", x.persons(2), 2);
        Check.due("full still", x.feed(1, '2'), FULL);
        Check.due("a term with a fault does", x.term(0), -11);
        Check.due("from the first byte on", x.feed(8, Check.packed("       3")), 8);
        Check.due("a good one does", x.term(0), 1);
        Check.due("from the first byte on again", x.feed(1, '2'), 1);
    }
}
