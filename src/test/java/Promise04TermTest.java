import java.util.ArrayList;
import java.util.Arrays;
import java.util.List;

/** The edges of promise 4: term, with the bounds of a text and its faults. */
public final class Promise04TermTest {
    private static final int UNKNOWN = IfYouWill.UNKNOWN;
    private static final String[] WORDS = {"else", "if", "as", "least", "most", "or", "and", "not", "who", "gives", "all",
        "of", "to", "give", "any", "sum", "day", "(", ")", "1"};

    private Promise04TermTest() {
    }

    public static void main(String[] args) {
        unknown();
        emptyTexts();
        fullTexts();
        howManyRules();
        numbersWithinBounds();
        figures();
        whatMayStandWhere();
        wordsAreWhole();
        everyByteAtTheBeginning();
        everyByteAtTheEnd();
        everyByteBesideAWord();
        blanks();
        sideBySide();
        atTheFirstByteThatHasOne();
        ofThoseTheLeast();
        theEndIsTheLength();
        toIsNotLess();
        sixDeep();
        deepAgain();
        aFaultChangesNoTerm();
        aGoodOneChangesOneTerm();
        whatWasReadBeforeIsForgotten();
        Check.end("Promise04TermTest");
    }

    private static void unknown() {
        for (int p : Edges.beyond(0, 3)) {
            Edges.refused("term(" + p + ")", UNKNOWN, x -> x.term(p));
        }
        for (int n = 1; n <= 6; n++) {
            IfYouWill x = new IfYouWill();
            x.persons(n);
            Check.feed(x, "2");
            Check.due("one more than " + n, x.term(n), UNKNOWN);
            Check.due("the text stays", x.count(1), 1);
            Check.due("the last of " + n, x.term(n - 1), 1);
            Check.due("the text is empty", x.count(1), 0);
            Check.due("unknown with an empty text, too", x.term(n), UNKNOWN);
        }
    }

    private static void emptyTexts() {
        Edges.fault("", 1, 0);
        Edges.fault(" ", 1, 1);
        Edges.fault(" ".repeat(120), 1, 120);
        IfYouWill x = new IfYouWill();
        Check.tell(x, 0, "2");
        Check.due("the text is empty behind a good one", x.term(0), -11);
        Check.due("and again", x.term(0), -11);
        Check.due("the term is as it was", x.lets(0, 0, 9), 2);
    }

    private static void fullTexts() {
        Edges.fine(" ".repeat(119) + "3", 1);
        Edges.fine("3" + " ".repeat(119), 1);
        Edges.fault(" ".repeat(119) + "4", 2, 119);
        Edges.fault(" ".repeat(118) + "3x", 1, 119);
        Edges.fault(" ".repeat(116) + "3 if", 1, 120);
        Edges.fault(" ".repeat(119) + "x", 1, 119);
        Edges.fault("1".repeat(120), 2, 0);
        Edges.fault("z".repeat(120), 1, 0);
    }

    private static void howManyRules() {
        StringBuilder text = new StringBuilder("0");
        for (int rules = 1; rules <= 24; rules++) {
            Edges.fine(text.toString(), rules);
            text.append("else").append(rules % 4);
        }
        Edges.fault(text.substring(0, 120), 1, 120);
        IfYouWill x = new IfYouWill();
        Check.due("ten rules, the last has no if", Check.tell(x, 0, "0if sum9" + "else1if sum9".repeat(8) + "else2"), 10);
        Check.due("it is the one that lets", x.lets(0, 0, 9), 2);
    }

    /** Each number of 0 to 99 in a place with bounds, by one and by two figures. */
    private static void bounds(String ahead, int least, int most, String behind) {
        for (int number = 0; number <= 99; number++) {
            boolean within = number >= least && number <= most;
            String two = number < 10 ? "0" + number : "" + number;
            for (String told : new String[] {"" + number, two}) {
                if (within) {
                    Edges.fine(ahead + told + behind, 1);
                } else {
                    Edges.fault(ahead + told + behind, 2, ahead.length());
                }
            }
        }
    }

    private static void numbersWithinBounds() {
        bounds("", 0, 3, "");
        bounds("as ", 0, 5, "");
        bounds("1 if who ", 0, 5, "");
        bounds("1 if who 0 gives ", 0, 3, "");
        bounds("1 if all of ", 0, 5, " to 5");
        bounds("1 if all of 0 to ", 0, 5, "");
        bounds("1 if all give ", 0, 3, "");
        bounds("1 if all of 0 to 5 give ", 0, 3, "");
        bounds("1 if any ", 0, 6, "");
        bounds("1 if any 1 of ", 0, 5, " to 5");
        bounds("1 if any 1 of 0 to ", 0, 5, "");
        bounds("1 if any 1 give ", 0, 3, "");
        bounds("1 if sum ", 0, 18, "");
        bounds("1 if day ", 1, 9, "");
        bounds("1 if not (day 1 or day ", 1, 9, ")");
    }

    private static void figures() {
        Edges.fine("03", 1);
        Edges.fault("003", 2, 0);
        Edges.fault("000", 2, 0);
        Edges.fine("1 if sum 18", 1);
        Edges.fault("1 if sum 018", 2, 9);
        Edges.fault("1 if sum 180", 2, 9);
        Edges.fine("1 if day 09", 1);
        Edges.fault("1 if day 009", 2, 9);
        Edges.fault("1 if day 00", 2, 9);
        Edges.fault("as 005", 2, 3);
        // numbers so long that an int of them would come round to one within bounds
        Edges.fault("4294967297", 2, 0);
        Edges.fault("18446744073709551617", 2, 0);
    }

    /** Behind these words just these may stand: a word, '1' for a number, '.' for the end. */
    private static void follows(String ahead, String can) {
        List<String> those = Arrays.asList(can.split(" "));
        for (String word : WORDS) {
            String text = ahead.isEmpty() ? word : ahead + " " + word;
            if (those.contains(word)) {
                IfYouWill x = new IfYouWill();
                int rules = Check.tell(x, 0, text);
                boolean goesOn = rules > 0 && x.fault() == IfYouWill.NONE || rules == -11 && x.fault() == text.length();
                Check.due("[" + word + "] can stand in [" + text + "]", goesOn ? 1 : 0, 1);
            } else {
                Edges.fault(text, 1, text.length() - word.length());
            }
        }
        if (those.contains(".")) {
            Edges.fine(ahead, ahead.contains("else") ? 2 : 1);
        } else {
            Edges.fault(ahead, 1, ahead.length());
        }
    }

    private static void whatMayStandWhere() {
        String much = "1 as least most";
        String one = "not ( who all any sum day";
        String joints = "and or else .";
        follows("", much);
        follows("2 else", much);
        follows("2 if sum 1 else", much);
        for (String whole : new String[] {"2", "least", "most", "as 1", "2 else 1"}) {
            follows(whole, "if else .");
        }
        for (String open : new String[] {"as", "2 if who", "2 if who 1 gives", "2 if all of", "2 if all of 0 to", "2 if all give",
            "2 if any", "2 if any 1 of", "2 if any 1 of 0 to", "2 if any 1 give", "2 if sum", "2 if day"}) {
            follows(open, "1");
        }
        for (String open : new String[] {"2 if", "2 if not", "2 if (", "2 if sum 1 and", "2 if sum 1 or", "2 if not (sum 1 and"}) {
            follows(open, one);
        }
        follows("2 if who 1", "gives " + joints);
        follows("2 if all", "of give " + joints);
        follows("2 if any 1", "of give " + joints);
        follows("2 if all of 0", "to");
        follows("2 if any 1 of 0", "to");
        follows("2 if all of 0 to 1", "give " + joints);
        follows("2 if any 1 of 0 to 1", "give " + joints);
        for (String whole : new String[] {"2 if who 1 gives 1", "2 if all give 1", "2 if all of 0 to 1 give 1", "2 if any 1 give 1",
            "2 if any 1 of 0 to 1 give 1", "2 if sum 1", "2 if day 1", "2 if not sum 1", "2 if (sum 1)", "2 if not (sum 1)"}) {
            follows(whole, joints);
        }
        follows("2 if (sum 1", "and or )");
        follows("2 if not (not sum 1", "and or )");
        follows("2 if (who 1", "gives and or )");
        follows("2 if ((sum 1)", "and or )");
    }

    /** A word with a letter too many or too few, or a letter that is none, cannot stand, from its first letter on. */
    private static void wordsAreWhole() {
        String[] texts = {"2 [else] 1", "2 [if] sum 1", "[as] 1", "[least]", "[most]", "2 if sum 1 [or] sum 2", "2 if sum 1 [and] sum 2",
            "2 if [not] sum 1", "2 if [who] 1", "2 if who 1 [gives] 1", "2 if [all]", "2 if all [of] 1 to 2", "2 if all of 1 [to] 2",
            "2 if all [give] 1", "2 if [any] 1", "2 if [sum] 1", "2 if [day] 1"};
        for (String text : texts) {
            int at = text.indexOf('[');
            int end = text.indexOf(']') - 1;
            String whole = text.replace("[", "").replace("]", "");
            String word = whole.substring(at, end);
            Edges.fine(whole, word.equals("else") ? 2 : 1);
            String less = word.substring(0, word.length() - 1);
            String last = word.substring(word.length() - 1);
            for (String other : new String[] {word + "a", word + "z", "a" + word, "z" + word, less, word + word, less + "z", less + last.toUpperCase(),
                word.toUpperCase(), less + " " + last}) {
                Edges.fault(whole.substring(0, at) + other + whole.substring(end), 1, at);
            }
        }
    }

    private static void everyByteAtTheBeginning() {
        for (char b = 0; b < 256; b++) {
            if (b >= '0' && b <= '3') {
                Edges.fine("" + b, 1);
            } else if (b >= '4' && b <= '9') {
                Edges.fault("" + b, 2, 0);
            } else {
                Edges.fault("" + b, 1, b == ' ' ? 1 : 0);
            }
        }
    }

    private static void everyByteAtTheEnd() {
        for (char b = 0; b < 256; b++) {
            String text = "2 if sum 1" + b;
            if (b == ' ' || b >= '0' && b <= '8') {
                Edges.fine(text, 1);
            } else if (b == '9') {
                Edges.fault(text, 2, 9);
            } else {
                Edges.fault(text, 1, 10);
            }
        }
    }

    private static void everyByteBesideAWord() {
        for (char b = 0; b < 256; b++) {
            boolean letter = b >= 'a' && b <= 'z';
            boolean figure = b >= '0' && b <= '9';
            if (figure) {
                Edges.fine("2 if sum" + b, 1);
                Edges.fault(b + "least", b <= '3' ? 1 : 2, b <= '3' ? 1 : 0);
            } else {
                Edges.fault("2 if sum" + b, 1, letter ? 5 : b == ' ' ? 9 : 8);
            }
            if (b == ' ') {
                Edges.fine(b + "least", 1);
            } else if (!figure) {
                Edges.fault(b + "least", 1, 0);
            }
        }
    }

    private static void blanks() {
        Edges.fine("  2  if  (  sum  1  )  and  not  all  of  1  to  2  give  3  else  as  1  ", 2);
        Edges.fine("2if(sum1)and not(all of1to2give3)or who1gives2or any1give1or day9else as1else most", 3);
        Edges.fault("le ast", 1, 0);
        Edges.fault("2 el se 1", 1, 2);
        Edges.fault("2 if sum 1 8", 1, 11);
        Edges.fault("0 3", 1, 2);
        Edges.fault("2\nif sum 1", 1, 1);
        Edges.fault("2 if sum\t1", 1, 8);
        Edges.fault("2 if sum\0", 1, 8);
    }

    private static void sideBySide() {
        Edges.fault("2 ifsum 1", 1, 2);
        Edges.fault("2 if sum 1 andsum 1", 1, 11);
        Edges.fault("2 if notsum 1", 1, 5);
        Edges.fault("2 if notnot sum 1", 1, 5);
        Edges.fault("2 if all of 01to02give012", 2, 22);
        Edges.fine("2 if all of 01to02give02", 1);
        Edges.fault("2 if who 11", 2, 9);
        Edges.fault("2 if who 1 1", 1, 11);
    }

    private static void atTheFirstByteThatHasOne() {
        Edges.fault("4 if sum 19 #", 2, 0);
        Edges.fault("3 if sum 19 #", 2, 9);
        Edges.fault("3 if sum 18 #", 1, 12);
        Edges.fault("3 if all of 3 to 1 give 9 #", 3, 17);
        Edges.fault("3 if all of 3 to 3 give 9 #", 2, 24);
        Edges.fault("3 if all of 6 to 1", 2, 12);
        Edges.fault("1 if (((((((sum 19 x", 4, 11);
        Edges.fault("1 if ((((((sum 19 (", 2, 15);
        Edges.fault("# 4", 1, 0);
        Edges.fault("2 3 4", 1, 2);
    }

    private static void ofThoseTheLeast() {
        // a number that cannot stand there, and is out of all bounds
        Edges.fault("2 999", 1, 2);
        Edges.fault("2 if 999", 1, 5);
        Edges.fault("2 if sum 1 99", 1, 11);
        // a number of three figures that is less than the former one
        Edges.fault("2 if all of 5 to 001", 2, 17);
        Edges.fault("2 if any 1 of 5 to 000", 2, 19);
        // the seventh deep one, where it cannot stand
        Edges.fault("1 if ((((((sum 1 (", 1, 17);
        Edges.fault("1 if ((((((sum 1 not", 1, 17);
        Edges.fault("1 if ((((((sum (", 1, 15);
        Edges.fault("1 if ((((((notsum", 1, 11);
        Edges.fault("1 if not not not not not not who not", 1, 33);
    }

    private static void theEndIsTheLength() {
        Edges.fault("2 if", 1, 4);
        Edges.fault("2 if   ", 1, 7);
        Edges.fault("as ", 1, 3);
        Edges.fault("2 if (sum 1  ", 1, 13);
        Edges.fault("2 if ((((((sum 1)))))", 1, 21);
        Edges.fault("2 if not ", 1, 9);
        Edges.fault("2 if all of 1  ", 1, 15);
    }

    private static void toIsNotLess() {
        for (String one : new String[] {"all", "any 1"}) {
            for (int from = 0; from <= 5; from++) {
                for (int to = 0; to <= 5; to++) {
                    String ahead = "2 if " + one + " of " + from + " to ";
                    if (to >= from) {
                        Edges.fine(ahead + to, 1);
                    } else {
                        Edges.fault(ahead + to, 3, ahead.length());
                        Edges.fault(ahead + "0" + to, 3, ahead.length());
                    }
                }
            }
        }
    }

    /** Each way to go six and seven deep with brackets and 'not'. */
    private static void sixDeep() {
        for (int way = 0; way < 128; way++) {
            StringBuilder open = new StringBuilder("1 if ");
            List<Integer> places = new ArrayList<>();
            StringBuilder close = new StringBuilder();
            for (int k = 0; k < 7; k++) {
                places.add(open.length());
                boolean bracket = (way >> k & 1) == 1;
                open.append(bracket ? "(" : "not ");
                close.append(bracket && k < 6 ? ")" : "");
            }
            String six = open.substring(0, places.get(6));
            Edges.fine(six + "sum 1" + close, 1);
            Edges.fault(open.toString(), 4, places.get(6));
            Edges.fault(open + "sum 1" + close + ")", 4, places.get(6));
        }
    }

    /** What has been closed is deep no more. */
    private static void deepAgain() {
        Edges.fine("1 if ((((((sum 1)))))) and ((((((sum 1)))))) or ((((((sum 1))))))", 1);
        Edges.fine("1 if ((((((sum 1 and sum 2) or (sum 1)) and (sum 1)) or (sum 1)) and (sum 1)) or (sum 1))", 1);
        Edges.fault("1 if (((((( sum 1) and ((", 4, 24);
        Edges.fine("1 if not not not not not not sum 1 and not not not not not not sum 1 or not sum 1", 1);
        Edges.fine("1 if (((((not sum 1 and not sum 1 or not sum 1)))))", 1);
        Edges.fault("1 if (((((not sum 1 and not not sum 1)))))", 4, 28);
        Edges.fine("1 if ((((((sum 1)))))) else 2 if ((((((sum 1))))))", 2);
        Edges.fault("1 if not not not not not not sum 1 else 2 if not not not not not not not sum 1", 4, 69);
    }

    private static void aFaultChangesNoTerm() {
        for (String text : new String[] {"", "3 else 3 else 4", "3 if sum 1 else", "3 if all of 1 to 0", "3 if (((((((", "3 3"}) {
            IfYouWill x = Check.with("1 if sum 2 and any 1 else 2", "1 else 1", "0");
            Check.due("a fault in [" + text + "]", Check.tell(x, 0, text) < -10 ? 1 : 0, 1);
            Check.due("rules are as they were", x.count(2), 5);
            for (int row = 0; row < 64; row++) {
                int others = row / 4 % 4 + row / 16;
                Check.due("the term is as it was by " + row, x.lets(0, row, 9), others >= 2 ? 1 : 2);
            }
            Check.due("the one beside it as well", x.lets(1, 0, 9), 1);
            Check.due("the text is empty", x.count(1), 0);
        }
    }

    private static void aGoodOneChangesOneTerm() {
        IfYouWill x = Check.with("1", "1", "1", "1", "1", "1");
        for (int p = 0; p < 6; p++) {
            Check.due("of " + p, Check.tell(x, p, "2 else 3"), 2);
            for (int q = 0; q < 6; q++) {
                Check.due("then " + q, x.lets(q, 0, 9), q <= p ? 2 : 1);
            }
            Check.due("rules then", x.count(2), 7 + p);
        }
        Check.due("one rule again", Check.tell(x, 5, "0"), 1);
        Check.due("and it lets", x.lets(5, 0, 9), 0);
    }

    /** A text that broke off at its fault, or a term that was there before, leaves nothing in the next one. */
    private static void whatWasReadBeforeIsForgotten() {
        for (String before : new String[] {"3 if any 1 give 1 and sum 1 and #", "3 else 2 if not sum 1 else 4", "3 if sum 1 else 2 if day 1"}) {
            for (String now : new String[] {"1", "1 if who 1", "1 else 2", "0 if who 1 else 1"}) {
                IfYouWill x = Check.with("2 if not any 2 give 2", "0");
                Check.tell(x, 1, before);
                Check.tell(x, 1, before);
                int rules = now.contains("else") ? 2 : 1;
                String what = "[" + now + "] behind [" + before + "]";
                Check.due(what, Check.tell(x, 0, now), rules);
                Check.due(what + " by nothing", x.lets(0, 0, 9), now.startsWith("1 if") ? 0 : 1);
                Check.due(what + " by 1", x.lets(0, Check.row(0, 1), 9), now.startsWith("0 if") ? 0 : 1);
                Check.due(what + " by 3", x.lets(0, Check.row(0, 3), 1), now.startsWith("0 if") ? 0 : 1);
                Check.due(what + " softer", x.soft(0, Check.row(2, 0)), IfYouWill.NONE);
                Check.due(what + " softer for 1", x.soft(0, Check.row(1, 0)), now.startsWith("1 if") ? IfYouWill.NONE : 0);
            }
        }
    }
}
