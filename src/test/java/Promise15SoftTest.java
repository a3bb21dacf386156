/** The edges of promise 15: soft. */
public final class Promise15SoftTest {
    private static final int NONE = IfYouWill.NONE, UNKNOWN = IfYouWill.UNKNOWN, OUTSIDE = IfYouWill.OUTSIDE;

    private Promise15SoftTest() {
    }

    public static void main(String[] args) {
        unknown();
        outside();
        unknownAheadOfOutside();
        asking();
        zeroToThree();
        notBelowItsLeast();
        whatIsNotTouched();
        whatIsNotTold();
        severalNumbers();
        everyNumberOfALongText();
        theLeastNumberOfOnes();
        allTogether();
        onDayNine();
        Check.end("Promise15SoftTest");
    }

    private static void unknown() {
        for (int p : Edges.beyond(NONE, 3)) {
            Edges.refused("soft(" + p + ", 0)", UNKNOWN, x -> x.soft(p, 0));
        }
    }

    private static void outside() {
        for (int row : Edges.beyond(0, 255)) {
            Edges.refused("soft(0, " + row + ")", OUTSIDE, x -> x.soft(0, row));
            Edges.refused("soft(NONE, " + row + ")", OUTSIDE, x -> x.soft(NONE, row));
        }
    }

    private static void unknownAheadOfOutside() {
        Edges.refused("soft(4, 256)", UNKNOWN, x -> x.soft(4, 256));
        Edges.refused("soft(-2, -1)", UNKNOWN, x -> x.soft(-2, -1));
    }

    private static void asking() {
        Edges.changeNothing("soft", x -> {
            for (int row = 0; row < 256; row += 9) {
                x.soft(row % 4, row);
                x.soft(NONE, row);
            }
        });
    }

    private static void zeroToThree() {
        for (int sum = 0; sum <= 18; sum++) {
            IfYouWill x = Check.with("1 if sum " + sum, "0", "0", "0", "0", "0");
            Check.due("sum " + sum + ", none gives", x.soft(0, 1), sum <= 3 ? sum : NONE);
            Check.due("sum " + sum + ", all give", x.soft(0, 4093), sum <= 15 ? 0 : sum - 15);
        }
        for (int many = 0; many <= 6; many++) {
            IfYouWill x = Check.with("1 if any " + many, "0", "0");
            Check.due("any " + many, x.soft(0, 1), many <= 3 ? many : NONE);
            Check.due("any " + many + ", two give", x.soft(0, Check.row(1, 1, 1)), many <= 2 ? 0 : many <= 5 ? many - 2 : NONE);
        }
        for (int give = 0; give <= 3; give++) {
            IfYouWill x = Check.with("1 if who 1 gives " + give, "1 if all give " + give, "1 if any 2 give " + give);
            for (int deed = 0; deed <= 3; deed++) {
                int ones = Math.max(give - deed, 0);
                Check.due("gives " + give + " by " + deed, x.soft(0, Check.row(1, deed, deed)), ones);
                Check.due("all give " + give + " by " + deed, x.soft(1, Check.row(deed, 1, deed)), ones);
                int fewer = deed >= give ? 0 : Math.min(ones, 2);
                Check.due("any 2 give " + give + " by " + deed, x.soft(2, Check.row(deed, deed, 1)), fewer);
            }
        }
    }

    /** 'not' turns what is softened into less: what cannot be less lets nothing. */
    private static void notBelowItsLeast() {
        for (int day = 1; day <= 9; day++) {
            // on the last day 'day 9' alone holds, and holds no more when it is one less
            Check.due("not day " + day, Check.with("1 if not day " + day).soft(0, 1), day == 9 ? 1 : 0);
            Check.due("no less than day 1: " + day, Check.with("1 if day " + day).soft(0, 1), day == 9 ? 0 : NONE);
        }
        Check.due("sum 0", Check.with("1 if not sum 0").soft(0, 1), NONE);
        Check.due("any 0", Check.with("1 if not any 0").soft(0, 1), NONE);
        Check.due("gives 0", Check.with("1 if not who 1 gives 0", "0").soft(0, 1), NONE);
        Check.due("all give 0", Check.with("1 if not all give 0", "0").soft(0, 1), NONE);
        Check.due("two that are at their least", Check.with("1 if sum 0 and any 0 and who 1", "0").soft(0, 1), NONE);
    }

    private static void whatIsNotTouched() {
        Check.due("much", Check.with("1").soft(0, 0), NONE);
        Check.due("much of the latter rule", Check.with("1 if sum 9 else 3", "0").soft(0, 2), NONE);
        Check.due("as P", Check.with("as 2", "0", "0").soft(0, Check.row(3, 3, 1)), NONE);
        Check.due("who P", Check.with("1 if who 2 gives 1", "0", "0").soft(0, Check.row(1, 3, 0)), 1);
        Check.due("who P alone", Check.with("1 if who 2", "0", "0").soft(0, Check.row(1, 3, 0)), NONE);
        Check.due("of P", Check.with("1 if any 1 of 2 to 2 give 2", "0", "0").soft(0, Check.row(1, 3, 0)), 1);
        Check.due("of P alone", Check.with("1 if not all of 2 to 2", "0", "0").soft(0, Check.row(1, 0, 1)), NONE);
        Check.due("to P alone", Check.with("1 if all of 1 to 2", "0", "0").soft(0, Check.row(1, 3, 0)), NONE);
    }

    private static void whatIsNotTold() {
        Check.due("who, of an unsaid 1", Check.with("1 if who 1", "0").soft(0, 1), NONE);
        Check.due("all, of an unsaid 1", Check.with("1 if all", "0").soft(0, 1), NONE);
        Check.due("any 2, of an unsaid 1", Check.with("1 if any 2", "0", "0").soft(0, 1), 2);
        Check.due("any 3, of an unsaid 1", Check.with("1 if any 3", "0", "0", "0").soft(0, 1), 3);
        Check.due("any 4, of an unsaid 1", Check.with("1 if any 4", "0", "0", "0", "0").soft(0, 1), NONE);
        Check.due("any 4 of a told 1", Check.with("1 if any 4 give 1", "0", "0", "0", "0").soft(0, 1), 1);
    }

    private static void severalNumbers() {
        Check.due("one each of three", Check.with("1 if sum 1 and any 1 and all give 1", "0").soft(0, 1), 3);
        Check.due("one each of four", Check.with("1 if sum 1 and any 1 and all give 1 and who 1 gives 1", "0").soft(0, 1), NONE);
        Check.due("two and one", Check.with("1 if sum 2 and any 1", "0").soft(0, 1), 3);
        Check.due("two and two", Check.with("1 if sum 2 and sum 2", "0").soft(0, 1), NONE);
        Check.due("three of the last", Check.with("1 if sum 0 and any 0 and sum 3", "0").soft(0, 1), 3);
        Check.due("both numbers of one", Check.with("2 if any 2 give 2", "0", "0").soft(0, Check.row(2, 1, 0)), 2);
        Check.due("rules ahead that must not hold", Check.with("2 if sum 2 else 1 if sum 3", "0").soft(0, Check.row(1, 1)), 2);
        // the former rule is to be softened no further than it lets nothing; the latter is
        Check.due("a rule ahead that must hold no more", Check.with("2 if not sum 1 else 1", "0").soft(0, 1), 1);
    }

    private static void everyNumberOfALongText() {
        String many = "1 if sum 0" + " and any 0 give 0".repeat(5) + " and sum 1";
        Check.due("behind eleven others", Check.with(many, "0").soft(0, 1), 1);
        String rules = "3 if sum 9" + " else 3 if sum 9".repeat(5) + " else 1 if sum 3";
        Check.due("in the seventh rule", Check.with(rules, "0").soft(0, 1), 3);
        String most = "1if sum0" + "and sum0".repeat(13) + "and sum3";
        Check.due("in a text of 120 bytes", Check.with(most, "0").soft(0, 1), 3);
    }

    private static void theLeastNumberOfOnes() {
        Check.due("the nearer of two", Check.with("1 if sum 3 or any 1", "0").soft(0, 1), 1);
        Check.due("the nearer stands first", Check.with("1 if any 1 or sum 3", "0").soft(0, 1), 1);
        Check.due("it is let already", Check.with("1 if sum 0 or sum 1", "0").soft(0, 1), 0);
        Check.due("one of two, the other must stay", Check.with("1 if sum 2 and not sum 1", "0").soft(0, 1), 2);
        Check.due("the other must stay, but cannot help", Check.with("1 if sum 4 and not sum 1", "0").soft(0, 1), NONE);
        Check.due("it may let too much on the way", Check.with("2 if sum 1 else 1 if sum 2", "0").soft(0, 1), 2);
    }

    private static void allTogether() {
        Check.due("nobody needs any", new IfYouWill().soft(NONE, 0), 0);
        String three = "1 if sum 8";
        IfYouWill x = Check.with(three, three, three, three, three, three);
        Check.due("three each of six", x.soft(NONE, 0x555), 18);
        Check.due("three of one", x.soft(5, 0x555), 3);
        Check.due("one is NONE, the first", Check.with("2", "1 if sum 1").soft(NONE, Check.row(1, 1)), NONE);
        Check.due("one is NONE, the last", Check.with("1 if sum 2", "2").soft(NONE, Check.row(1, 1)), NONE);
        Check.due("one needs three, one none", Check.with("1 if sum 3", "0").soft(NONE, 1), 3);
        Check.due("one alone", Check.with("2 if sum 2").soft(NONE, 2), 2);
    }

    private static void onDayNine() {
        Check.due("a day that is over cannot be softened back", Check.with("1 if day 8").soft(0, 1), NONE);
        Check.due("the last day holds", Check.with("1 if day 9").soft(0, 1), 0);
    }
}
