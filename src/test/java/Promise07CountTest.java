/** The edges of promise 7: count. */
public final class Promise07CountTest {
    private static final int UNKNOWN = IfYouWill.UNKNOWN, OUTSIDE = IfYouWill.OUTSIDE, FULL = IfYouWill.FULL;

    private Promise07CountTest() {
    }

    public static void main(String[] args) {
        outside();
        asking();
        persons();
        bytes();
        rulesAtFirst();
        rulesAtMost();
        rulesThatStay();
        growingOnDayNine();
        noneGrowing();
        Check.end("Promise07CountTest");
    }

    private static void outside() {
        for (int what : Edges.beyond(0, 3)) {
            Edges.refused("count(" + what + ")", OUTSIDE, x -> x.count(what));
        }
    }

    private static void asking() {
        Edges.changeNothing("count", x -> {
            for (int what = 0; what <= 3; what++) {
                x.count(what);
            }
        });
    }

    private static void persons() {
        IfYouWill x = new IfYouWill();
        Check.due("at first", x.count(0), 4);
        for (int n = 1; n <= 6; n++) {
            x.persons(n);
            Check.due("of " + n, x.count(0), n);
        }
        x.persons(7);
        Check.due("seven are refused", x.count(0), 6);
        x.persons(0);
        Check.due("none are refused", x.count(0), 6);
    }

    private static void bytes() {
        IfYouWill x = new IfYouWill();
        for (int k = 0; k <= 120; k++) {
            Check.due("bytes", x.count(1), k);
            Check.due("one more", x.feed(1, ' '), k < 120 ? k + 1 : FULL);
        }
        Check.due("no more than 120", x.count(1), 120);
        x.term(4);
        Check.due("as many when the term is unknown", x.count(1), 120);
        x.term(0);
        Check.due("none behind a term", x.count(1), 0);
    }

    private static void rulesAtFirst() {
        for (int n = 1; n <= 6; n++) {
            IfYouWill x = new IfYouWill();
            x.persons(n);
            Check.due("one each of " + n, x.count(2), n);
        }
    }

    private static void rulesAtMost() {
        IfYouWill x = new IfYouWill();
        x.persons(6);
        String most = "0" + "else1".repeat(23);
        for (int p = 0; p < 6; p++) {
            Check.due("24 rules", Check.tell(x, p, most), 24);
            Check.due("of all", x.count(2), 24 * (p + 1) + 5 - p);
        }
        Check.due("144", x.count(2), 144);
        x.persons(5);
        Check.due("one each again", x.count(2), 5);
        x.persons(6);
        Check.due("and of one more", x.count(2), 6);
    }

    private static void rulesThatStay() {
        IfYouWill x = Check.with("1 else 2", "0");
        Check.tell(x, 0, "1 else 2 else 4");
        Check.due("a fault adds none", x.count(2), 3);
        Check.feed(x, "1 else 2 else 3");
        Check.due("a text has none", x.count(2), 3);
        Check.due("a term of nobody", x.term(2), UNKNOWN);
        Check.due("has none", x.count(2), 3);
        x.term(0);
        Check.due("a term in the place of one", x.count(2), 4);
    }

    private static void growingOnDayNine() {
        Check.due("one that grows on the last day alone", Check.with("1 if not (who 1 and day 8)", "0").count(3), 2);
        Check.due("one that grows on all days but the last", Check.with("2 if day 8 else 1 if not who 1", "0").count(3), 1);
        IfYouWill x = Check.with("1 if not who 1", "as 0", "2");
        Check.due("two of three", x.count(3), 2);
        Check.tell(x, 0, "1 if who 1");
        Check.due("three of three", x.count(3), 3);
        Check.due("one alone", Check.with("1 if not sum 1").count(3), 1);
    }

    private static void noneGrowing() {
        String not = "1 if not any 1";
        Check.due("none of six", Check.with(not, not, not, not, not, not).count(3), 0);
        Check.due("none of two", Check.with(not, not).count(3), 0);
        Check.due("the last of six", Check.with(not, not, not, not, not, "most").count(3), 1);
    }
}
