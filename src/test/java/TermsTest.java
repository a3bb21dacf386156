/** Promises 1 to 8: a new object, persons, feed, term, fault, lets, count, grows. */
public final class TermsTest {
    private static final int NONE = IfYouWill.NONE, UNKNOWN = IfYouWill.UNKNOWN;
    private static final int OUTSIDE = IfYouWill.OUTSIDE, FULL = IfYouWill.FULL;

    private TermsTest() {
    }

    public static void main(String[] args) {
        newObject();
        persons();
        feed();
        termAndFault();
        faultsInOrder();
        deepOnes();
        longTexts();
        letsMuch();
        letsWhoAllAny();
        letsSumDayJoints();
        letsRefusals();
        count();
        grows();
        Check.end("TermsTest");
    }

    private static void newObject() {
        IfYouWill x = new IfYouWill();
        Check.due("persons of a new one", x.count(0), 4);
        Check.due("bytes of a new one", x.count(1), 0);
        Check.due("rules of a new one", x.count(2), 4);
        Check.due("growing of a new one", x.count(3), 4);
        Check.due("fault of a new one", x.fault(), NONE);
        Check.due("settled of a new one", x.settled(NONE), 1);
        for (int p = 0; p < 4; p++) {
            Check.due("lets of a new one", x.lets(p, 255, 1), 0);
            Check.due("part of a new one", x.offer(p, 0, 0), 0);
            Check.due("worth of a new one", x.offer(p, 1, 0), 0);
        }
        Check.due("a fifth person", x.lets(4, 0, 1), UNKNOWN);
    }

    private static void persons() {
        IfYouWill x = Check.with("1", "2", "3 else 1", "1");
        x.offer(2, 0, 7);
        x.offer(2, 1, 8);
        Check.feed(x, "2 if");
        x.term(0);
        Check.feed(x, "abc");
        Check.due("no persons", x.persons(0), OUTSIDE);
        Check.due("seven persons", x.persons(7), OUTSIDE);
        Check.due("fewer than none", x.persons(-1), OUTSIDE);
        Check.due("persons after refusals", x.count(0), 4);
        Check.due("rules after refusals", x.count(2), 5);
        Check.due("lets after refusals", x.lets(1, 0, 9), 2);
        Check.due("persons(3)", x.persons(3), 3);
        Check.due("persons", x.count(0), 3);
        Check.due("rules are new", x.count(2), 3);
        Check.due("terms are new", x.lets(2, 0, 9), 0);
        Check.due("parts are new", x.offer(2, 0, 0), 0);
        Check.due("worths are new", x.offer(2, 1, 0), 0);
        Check.due("the text stays", x.count(1), 3);
        Check.due("the fault stays", x.fault(), 4);
        Check.due("persons(1)", x.persons(1), 1);
        Check.due("persons(6)", x.persons(6), 6);
        Check.due("a row of six", x.lets(5, 4095, 9), 0);
        Check.tell(x, 5, "3");
        x.persons(5);
        x.persons(6);
        Check.due("a term that was away is new", x.lets(5, 0, 9), 0);
    }

    private static void feed() {
        IfYouWill x = new IfYouWill();
        Check.due("feed of none", x.feed(0, 50), OUTSIDE);
        Check.due("feed of nine", x.feed(9, 50), OUTSIDE);
        Check.due("feed below none", x.feed(-1, 50), OUTSIDE);
        Check.due("no byte came", x.count(1), 0);
        Check.due("one byte, the lowest", x.feed(1, Check.packed("x2")), 1);
        Check.due("it is a 2", x.term(0), 1);
        Check.due("it lets 2", x.lets(0, 0, 9), 2);
        Check.due("the highest first", x.feed(5, Check.packed("2else")), 5);
        Check.due("behind", x.feed(2, Check.packed(" 1")), 7);
        Check.due("two rules", x.term(0), 2);
        Check.due("a negative long", x.feed(8, -1L), 8);
        Check.due("bytes of 255", x.term(0), -11);
        for (int k = 1; k <= 14; k++) {
            Check.due("eight more", x.feed(8, Check.packed("        ")), 8 * k);
        }
        Check.due("seven more", x.feed(7, Check.packed("       ")), 119);
        Check.due("two more are too many", x.feed(2, Check.packed("22")), FULL);
        Check.due("outside ahead of full", x.feed(9, 0), OUTSIDE);
        Check.due("what was full changed nothing", x.count(1), 119);
        Check.due("the last one", x.feed(1, Check.packed("3")), 120);
        Check.due("full", x.feed(1, Check.packed("3")), FULL);
        Check.due("120 bytes", x.term(3), 1);
        Check.due("let by 120 bytes", x.lets(3, 0, 9), 3);
    }

    private static void termAndFault() {
        IfYouWill x = Check.with("1", "0", "0", "0");
        Check.feed(x, "3");
        Check.due("term of nobody", x.term(4), UNKNOWN);
        Check.due("term below all", x.term(-1), UNKNOWN);
        Check.due("the text stays", x.count(1), 1);
        Check.due("then it is taken", x.term(1), 1);
        Check.due("the text is empty", x.count(1), 0);
        Check.due("an empty text", x.term(0), -11);
        Check.due("its fault", x.fault(), 0);
        Check.due("the term is as it was", x.lets(0, 0, 9), 1);
        Check.due("rules are as they were", x.count(2), 4);
        Check.due("unknown", x.term(9), UNKNOWN);
        Check.due("the fault is that of the one before", x.fault(), 0);
        Check.due("blanks alone", Check.tell(x, 0, "   "), -11);
        Check.due("at the end", x.fault(), 3);
        Check.due("a good one", Check.tell(x, 0, "2"), 1);
        Check.due("no fault", x.fault(), NONE);
        Check.due("a bad one half read", Check.tell(x, 0, "3 else 1 if sum 2 else x"), -11);
        Check.due("spoils nothing", x.lets(0, 0, 9), 2);
    }

    private static void faultsInOrder() {
        Edges.fault("2 3", 1, 2);
        Edges.fault("2 300", 1, 2);
        Edges.fault("300", 2, 0);
        Edges.fault("003", 2, 0);
        Edges.fine("03", 1);
        Edges.fault("04", 2, 0);
        Edges.fault("as 6", 2, 3);
        Edges.fault("as", 1, 2);
        Edges.fault("as least", 1, 3);
        Edges.fault("leasst", 1, 0);
        Edges.fault(" Least", 1, 1);
        Edges.fault("2\tif sum 1", 1, 1);
        Edges.fault("2 if sum 1 #", 1, 11);
        Edges.fault("2 ifsum 1", 1, 2);
        Edges.fault("2 if sumz 1", 1, 5);
        Edges.fault("2 if xho 1", 1, 5);
        Edges.fault("2 xf sum 1", 1, 2);
        Edges.fine("2if sum1and who1gives2or day9else most", 2);
        Edges.fault("2 if sum 1 2", 1, 11);
        Edges.fault("2 if sum 1 if sum 2", 1, 11);
        Edges.fault("if sum 1", 1, 0);
        Edges.fault("2 else", 1, 6);
        Edges.fault("2 else else", 1, 7);
        Edges.fault("2 if sum", 1, 8);
        Edges.fault("2 if sum 100", 2, 9);
        Edges.fault("2 if sum x", 1, 9);
        Edges.fine("2 if sum 18 and sum 0 and day 1 and day 9 and any 6 and any 0", 1);
        Edges.fault("2 if day 10", 2, 9);
        Edges.fault("2 if who 1 gives", 1, 16);
        Edges.fault("2 if who 1 gives 4", 2, 17);
        Edges.fault("2 if all give 4", 2, 14);
        Edges.fault("2 if all gives 1", 1, 9);
        Edges.fault("2 if all of 1 to 6", 2, 17);
        Edges.fault("2 if all of 6 to 1", 2, 12);
        Edges.fault("2 if all of 5 to 4 give 9", 3, 17);
        Edges.fault("2 if all of 5 to 004", 2, 17);
        Edges.fine("2 if all of 5 to 5 give 0", 1);
        Edges.fine("2 if all of 0 to 0 and any 1 of 0 to 5", 1);
        Edges.fault("2 if all give 1 of 1 to 2", 1, 16);
        Edges.fault("2 if any", 1, 8);
        Edges.fault("2 if any of 1 to 2", 1, 9);
        Edges.fault("2 if any 2 of 1", 1, 15);
        Edges.fault("2 if sum 1 and", 1, 14);
        Edges.fault("2 if sum 1 or or sum 2", 1, 14);
        Edges.fault("2 if not", 1, 8);
        Edges.fault("2 if ()", 1, 6);
        Edges.fault("2 if (sum 1 else 3", 1, 12);
        Edges.fault("2 if (sum 1))", 1, 12);
        Edges.fault("(2)", 1, 0);
        Edges.fault("2 if sum 1 not", 1, 11);
        Edges.fault("2 if sum 1 (sum 2)", 1, 11);
    }

    private static void deepOnes() {
        Edges.fine("1 if not not not not not not sum 1", 1);
        Edges.fault("1 if not not not not not not not sum 1", 4, 29);
        Edges.fine("1 if not(not(not(sum 1)))", 1);
        Edges.fault("1 if not(not(not((sum 1))))", 4, 17);
        Edges.fault("1 if ((((((not sum 1))))))", 4, 11);
        Edges.fault("1 if ((((((((((", 4, 11);
        Edges.fine("1 if ((((((sum 1)))))) and ((((((sum 1)))))) or not not not sum 1 and not not not not sum 2", 1);
        Edges.fault("1 if ((((((x", 1, 11);
        Edges.fine("1 if (((((not sum 1 and not sum 2) or not sum 1))))", 1);
    }

    private static void longTexts() {
        StringBuilder rules = new StringBuilder("0");
        for (int k = 1; k < 24; k++) {
            rules.append("else").append(k % 4);
        }
        Edges.fine(rules.toString(), 24);
        Edges.fine(rules + "    ", 24);
        Edges.fault(rules + "else", 1, 120);
        StringBuilder ones = new StringBuilder("1 if all");
        while (ones.length() + 7 <= 120) {
            ones.append(" or all");
        }
        Edges.fine(ones.toString(), 1);
        IfYouWill x = Check.with(ones.toString(), "0");
        Check.due("a long or", x.lets(0, Check.row(0, 1), 9), 1);
        Check.due("a long or of none", x.lets(0, 0, 9), 0);
        StringBuilder nots = new StringBuilder("1 if any 1");
        while (nots.length() + 10 <= 120) {
            nots.append(" and any 1");
        }
        x = Check.with(nots.toString(), "0");
        Check.due("a long and", x.lets(0, Check.row(0, 1), 9), 1);
        Check.due("a long and of none", x.lets(0, 0, 9), 0);
        Edges.fault("9".repeat(120), 2, 0);
        Edges.fault("a".repeat(120), 1, 0);
        Edges.fault("(".repeat(120), 1, 0);
    }

    private static void letsMuch() {
        IfYouWill x = Check.with("as 1", "as 1", "as 5", "least", "most");
        int row = Check.row(2, 3, 1, 0, 3);
        Check.due("as another", x.lets(0, row, 9), 3);
        Check.due("as oneself", x.lets(1, row, 9), 0);
        Check.due("as nobody", x.lets(2, row, 9), 0);
        Check.due("the least of the others", x.lets(3, row, 9), 1);
        Check.due("the most of the others", x.lets(4, row, 9), 3);
        Check.due("the own deed is no most", x.lets(4, Check.row(1, 2, 0, 0, 3), 9), 2);
        Check.due("the least is that of 0", x.lets(3, Check.row(1, 2, 2, 0, 2), 9), 1);
        x = Check.with("as 1", "least");
        Check.due("the least of one other", x.lets(1, 3, 9), 3);
        x = Check.with("least");
        Check.due("least of none", x.lets(0, 3, 9), 0);
        x = Check.with("most else 3");
        Check.due("most of none", x.lets(0, 3, 9), 0);
        x = Check.with("3 if who 1 else 2 if who 2 else 1", "0", "1 if who 0 else 2 if who 1");
        Check.due("the first rule", x.lets(0, Check.row(0, 1, 1), 9), 3);
        Check.due("the second", x.lets(0, Check.row(0, 0, 1), 9), 2);
        Check.due("the last", x.lets(0, 0, 9), 1);
        Check.due("no rule at all", x.lets(2, 0, 9), 0);
    }

    private static void letsWhoAllAny() {
        IfYouWill x = Check.with("1 if who 0 else 2 if who 0 gives 0", "1 if who 5 else 2 if who 5 gives 0",
                "1 if all of 1 to 4 give 2", "1 if any 2 of 1 to 4", "1 if any 0 of 4 to 4 give 3 and all of 4 to 4");
        Check.due("who of the own number", x.lets(0, Check.row(3, 0, 0, 0, 0), 9), 2);
        Check.due("who of nobody", x.lets(1, 1023, 9), 2);
        Check.due("all but oneself", x.lets(2, Check.row(0, 2, 0, 3, 2), 9), 1);
        Check.due("not all", x.lets(2, Check.row(3, 2, 3, 1, 2), 9), 0);
        Check.due("any two but oneself", x.lets(3, Check.row(3, 1, 0, 3, 0), 9), 0);
        Check.due("any two", x.lets(3, Check.row(0, 1, 1, 0, 0), 9), 1);
        Check.due("all of oneself alone", x.lets(4, 0, 9), 1);
        x = Check.with("1 if all of 1 to 5", "2 if all of 3 to 5 give 3", "3 if any 1 of 3 to 5 give 0");
        Check.due("all of those that there are", x.lets(0, Check.row(0, 1, 1), 9), 1);
        Check.due("all of nobody", x.lets(1, 0, 9), 2);
        Check.due("any of nobody", x.lets(2, 0, 9), 0);
        x = Check.with("1 if all");
        Check.due("all of none", x.lets(0, 0, 9), 1);
        x = Check.with("1 if all", "1 if any 2 give 3", "0");
        Check.due("all give 1", x.lets(0, Check.row(0, 1, 1), 9), 1);
        Check.due("one gives none", x.lets(0, Check.row(3, 3, 0), 9), 0);
        Check.due("any two give 3", x.lets(1, Check.row(3, 0, 3), 9), 1);
        Check.due("one gives 2", x.lets(1, Check.row(3, 3, 2), 9), 0);
    }

    private static void letsSumDayJoints() {
        IfYouWill x = Check.with("1 if sum 4", "2 if day 3", "1 if who 0 or who 1 and day 4", "1 if (who 0 or who 1) and day 4",
                "1 if not who 0 and who 1", "1 if not (who 0 and who 1)");
        Check.due("sum 4", x.lets(0, Check.row(0, 3, 0, 0, 0, 1), 9), 1);
        Check.due("the own deed is not in the sum", x.lets(0, Check.row(3, 3), 9), 0);
        Check.due("day 3", x.lets(1, 0, 3), 2);
        Check.due("day 4", x.lets(1, 0, 4), 0);
        Check.due("and ahead of or", x.lets(2, 1, 9), 1);
        Check.due("brackets ahead of and", x.lets(3, 1, 9), 0);
        Check.due("in brackets by day 4", x.lets(3, 4, 4), 1);
        Check.due("not of the one alone", x.lets(4, 0, 9), 0);
        Check.due("not of the one, and another", x.lets(4, 4, 9), 1);
        Check.due("not both", x.lets(5, 1, 9), 1);
        Check.due("both", x.lets(5, 5, 9), 0);
        x = Check.with("1 if who 1 and (who 2)", "1 if day 9 and (who 0 or not (who 2 or day 1))", "0");
        Check.due("brackets behind and", x.lets(0, Check.row(0, 1, 1), 9), 1);
        Check.due("not all of brackets", x.lets(0, Check.row(0, 0, 1), 9), 0);
        Check.due("brackets in brackets", x.lets(1, 0, 9), 1);
        Check.due("brackets that fail", x.lets(1, Check.row(0, 0, 1), 9), 0);
        x = Check.with("1 if sum 18", "0", "0", "0", "0", "0");
        Check.due("sum 18 never", x.lets(0, 4095, 9), 0);
    }

    private static void letsRefusals() {
        IfYouWill x = Check.with("1", "2");
        Check.due("unknown ahead of outside", x.lets(2, 16, 0), UNKNOWN);
        Check.due("unknown below", x.lets(-1, 0, 1), UNKNOWN);
        Check.due("a row too far", x.lets(0, 16, 1), OUTSIDE);
        Check.due("a row below 0", x.lets(0, -1, 1), OUTSIDE);
        Check.due("day 0", x.lets(0, 0, 0), OUTSIDE);
        Check.due("day 10", x.lets(0, 0, 10), OUTSIDE);
        Check.due("the last row and day", x.lets(1, 15, 9), 2);
    }

    private static void count() {
        IfYouWill x = Check.with("1 if not who 1", "2 if day 3 else 1 if who 0", "most else 2 else 3");
        Check.feed(x, "12345");
        Check.due("count 0", x.count(0), 3);
        Check.due("count 1", x.count(1), 5);
        Check.due("count 2", x.count(2), 6);
        Check.due("count 3", x.count(3), 2);
        Check.due("count 4", x.count(4), OUTSIDE);
        Check.due("growing on the last day", Check.with("1 if not (who 1 and day 8)", "0").count(3), 2);
        Check.due("count NONE", x.count(NONE), OUTSIDE);
    }

    private static void grows() {
        IfYouWill x = Check.with("2 if not (who 2 gives 2 or day 4)", "1 if who 0 gives 2 else 2", "most");
        Check.due("grows early", x.grows(0, 4, NONE), 1);
        Check.due("no slip row", x.grows(0, 4, 0), NONE);
        Check.due("no slip person", x.grows(0, 4, 1), NONE);
        Check.due("does not grow late", x.grows(0, 5, NONE), 0);
        Check.due("the first row", x.grows(0, 5, 0), Check.row(0, 0, 1));
        Check.due("by whom", x.grows(0, 5, 1), 2);
        Check.due("another day's answers are kept apart", x.grows(0, 1, NONE), 1);
        Check.due("slip of one", x.grows(1, 9, 0), 1);
        Check.due("slip by 0", x.grows(1, 9, 1), 0);
        Check.due("most grows", x.grows(2, 9, NONE), 1);
        x = Check.with("0", "3 if not any 1");
        Check.due("slip at 0", x.grows(1, 9, 0), 0);
        Check.due("slip by the first", x.grows(1, 9, 1), 0);
        x = Check.with("3 if not any 1", "1 if not who 0 gives 3");
        Check.due("slip at 0 of the first", x.grows(0, 9, 0), 0);
        Check.due("slip by the second", x.grows(0, 9, 1), 1);
        Check.due("slip by the last deed", x.grows(1, 9, 0), 2);
        x = Check.with("0", "3", "2 if not any 1");
        Check.due("of like ones the least other", x.grows(2, 9, 1), 0);
        Check.due("unknown ahead of outside", x.grows(3, 0, 2), UNKNOWN);
        Check.due("day 0", x.grows(0, 0, 0), OUTSIDE);
        Check.due("day 10", x.grows(0, 10, 0), OUTSIDE);
        Check.due("what 2", x.grows(0, 9, 2), OUTSIDE);
        Check.due("what -2", x.grows(0, 9, -2), OUTSIDE);
        Check.due("one alone", Check.with("3 if not sum 1").grows(0, 9, NONE), 1);
    }
}
