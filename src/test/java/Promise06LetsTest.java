/** The edges of promise 6: lets. */
public final class Promise06LetsTest {
    private static final int UNKNOWN = IfYouWill.UNKNOWN, OUTSIDE = IfYouWill.OUTSIDE;
    private static final String[] ALL_KINDS = {"as 0", "as 1", "as 5", "least", "most", "2 if who 0 gives 2", "2 if who 2",
        "1 if all", "3 if all of 0 to 1 give 2", "1 if any 1", "2 if any 2 of 1 to 3 give 3", "1 if sum 4",
        "2 if day 4 and not sum 3 else most if any 2 or who 1 gives 3 else 1"};

    private Promise06LetsTest() {
    }

    public static void main(String[] args) {
        unknown();
        outsideRows();
        outsideDays();
        unknownAheadOfOutside();
        asking();
        theOwnDeedIsNotLookedAt();
        theFirstRuleThatHolds();
        asMuchAs();
        leastAndMost();
        who();
        allOfTheOthers();
        anyOfTheOthers();
        fromTo();
        sums();
        days();
        notAndOr();
        longPiles();
        Check.end("Promise06LetsTest");
    }

    private static void unknown() {
        for (int p : Edges.beyond(0, 3)) {
            Edges.refused("lets(" + p + ", 0, 9)", UNKNOWN, x -> x.lets(p, 0, 9));
        }
        for (int n = 1; n <= 6; n++) {
            IfYouWill x = new IfYouWill();
            x.persons(n);
            Check.due("the last of " + n, x.lets(n - 1, 0, 9), 0);
            Check.due("one more than " + n, x.lets(n, 0, 9), UNKNOWN);
        }
    }

    private static void outsideRows() {
        for (int row : Edges.beyond(0, 255)) {
            Edges.refused("lets(0, " + row + ", 9)", OUTSIDE, x -> x.lets(0, row, 9));
        }
        for (int n = 1; n <= 6; n++) {
            IfYouWill x = new IfYouWill();
            x.persons(n);
            Check.tell(x, n - 1, "2");
            Check.due("the first row of " + n, x.lets(n - 1, 0, 9), 2);
            Check.due("the last row of " + n, x.lets(n - 1, Edges.rows(n) - 1, 9), 2);
            Check.due("one more than those of " + n, x.lets(n - 1, Edges.rows(n), 9), OUTSIDE);
            Check.due("one below those of " + n, x.lets(n - 1, -1, 9), OUTSIDE);
        }
    }

    private static void outsideDays() {
        for (int day : Edges.beyond(1, 9)) {
            Edges.refused("lets(0, 0, " + day + ")", OUTSIDE, x -> x.lets(0, 0, day));
        }
    }

    private static void unknownAheadOfOutside() {
        Edges.refused("lets(4, 256, 0)", UNKNOWN, x -> x.lets(4, 256, 0));
        Edges.refused("lets(-1, 0, 10)", UNKNOWN, x -> x.lets(-1, 0, 10));
        Edges.refused("lets(4, -1, 9)", UNKNOWN, x -> x.lets(4, -1, 9));
    }

    private static void asking() {
        Edges.changeNothing("lets", x -> {
            for (int p = 0; p < 4; p++) {
                x.lets(p, 200, 3);
            }
        });
    }

    private static void theOwnDeedIsNotLookedAt() {
        for (String term : ALL_KINDS) {
            for (int p = 0; p < 4; p++) {
                IfYouWill x = new IfYouWill();
                Check.tell(x, p, term);
                for (int row = 0; row < 256; row += 3) {
                    int without = row & ~(3 << 2 * p);
                    int let = x.lets(p, without, 4);
                    for (int own = 1; own <= 3; own++) {
                        Check.due(term + " of " + p + " by " + row + ", own deed " + own, x.lets(p, without + (own << 2 * p), 4), let);
                    }
                }
            }
        }
    }

    private static void theFirstRuleThatHolds() {
        IfYouWill x = Check.with("3 if sum 3 else 2 if sum 2 else 1 if sum 1", "0");
        for (int other = 0; other <= 3; other++) {
            Check.due("by " + other, x.lets(0, Check.row(0, other), 9), other);
        }
        x = Check.with("1 if sum 0 else 2", "2 else 1", "0 if who 0 else 3");
        Check.due("the first of two that hold", x.lets(0, 0, 9), 1);
        Check.due("one that has no if, and one behind it", x.lets(1, 0, 9), 2);
        Check.due("a first one of 0 holds", x.lets(2, 1, 9), 0);
        Check.due("and if not, the next", x.lets(2, 0, 9), 3);
        Check.due("none holds", Check.with("3 if sum 1", "0").lets(0, 0, 9), 0);
        Check.due("none of many holds", Check.with("3 if sum 1 else 2 if sum 2 else most if who 1", "0").lets(0, 0, 9), 0);
    }

    private static void asMuchAs() {
        for (int n = 1; n <= 6; n++) {
            for (int of = 0; of <= 5; of++) {
                IfYouWill x = new IfYouWill();
                x.persons(n);
                Check.tell(x, 0, "as " + of);
                int all = Edges.rows(n) - 1;
                Check.due("as " + of + " of " + n, x.lets(0, all, 9), of == 0 || of >= n ? 0 : 3);
                Check.due("as " + of + " of " + n + " who do 0", x.lets(0, 3, 9), 0);
            }
        }
        for (int deed = 0; deed <= 3; deed++) {
            Check.due("as one who does " + deed, Check.with("as 1", "0").lets(0, Check.row(0, deed), 9), deed);
        }
    }

    private static void leastAndMost() {
        Check.due("least, and no others", Check.with("least").lets(0, 3, 9), 0);
        Check.due("most, and no others", Check.with("most").lets(0, 3, 9), 0);
        IfYouWill x = Check.with("least", "most");
        for (int deed = 0; deed <= 3; deed++) {
            Check.due("the least of one other", x.lets(0, Check.row(3 - deed, deed), 9), deed);
            Check.due("the most of one other", x.lets(1, Check.row(deed, 3 - deed), 9), deed);
        }
        x = Check.with("least", "most", "least", "most", "least", "most");
        int row = Check.row(1, 3, 2, 2, 2, 3);
        Check.due("least of six, the first", x.lets(0, row, 9), 2);
        Check.due("most of six, by the last", x.lets(1, row, 9), 3);
        Check.due("least of six, by the first", x.lets(4, row, 9), 1);
        Check.due("most of six, the last", x.lets(5, Check.row(1, 0, 2, 2, 2, 3), 9), 2);
    }

    private static void who() {
        for (int gives = 0; gives <= 3; gives++) {
            IfYouWill x = Check.with("1 if who 1 gives " + gives, "1 if who 1 gives " + gives, "1 if who 3 gives " + gives);
            for (int deed = 0; deed <= 3; deed++) {
                Check.due(deed + " is " + gives + " or more", x.lets(0, Check.row(0, deed, 0), 9), deed >= gives ? 1 : 0);
                Check.due("the own number gives 0", x.lets(1, Check.row(3, deed, 3), 9), gives == 0 ? 1 : 0);
            }
            Check.due("one that there is not gives 0", x.lets(2, 63, 9), gives == 0 ? 1 : 0);
        }
        IfYouWill x = Check.with("1 if who 1", "1 if who 1", "1 if who 5");
        Check.due("not told, 0", x.lets(0, Check.row(0, 0, 0), 9), 0);
        Check.due("not told, 1", x.lets(0, Check.row(0, 1, 0), 9), 1);
        Check.due("not told, of oneself", x.lets(1, 63, 9), 0);
        Check.due("not told, of one that there is not", x.lets(2, 63, 9), 0);
    }

    private static void allOfTheOthers() {
        for (int give = 0; give <= 3; give++) {
            IfYouWill x = Check.with("0", "1 if all give " + give, "0");
            for (int row = 0; row < 64; row++) {
                boolean all = row % 4 >= give && row / 16 >= give;
                Check.due("all give " + give + " by " + row, x.lets(1, row, 9), all ? 1 : 0);
            }
        }
        IfYouWill x = Check.with("0", "1 if all", "0");
        Check.due("not told: both give 1", x.lets(1, Check.row(1, 0, 1), 9), 1);
        Check.due("not told: one gives 0", x.lets(1, Check.row(3, 3, 0), 9), 0);
        Check.due("there are no others", Check.with("1 if all give 3").lets(0, 0, 9), 1);
    }

    private static void anyOfTheOthers() {
        for (int many = 0; many <= 6; many++) {
            for (int give = 0; give <= 3; give++) {
                IfYouWill x = Check.with("1 if any " + many + " give " + give, "0", "0", "0", "0", "0");
                for (int givers = 0; givers <= 5; givers++) {
                    int[] deeds = {3, 0, 0, 0, 0, 0};
                    for (int q = 1; q <= 5; q++) {
                        deeds[q] = q <= givers ? give : Math.max(give - 1, 0);
                    }
                    int all = give == 0 ? 5 : givers;
                    Check.due("any " + many + " give " + give + " of " + givers, x.lets(0, Check.row(deeds), 9), all >= many ? 1 : 0);
                }
            }
        }
        IfYouWill x = Check.with("1 if any 2", "0", "0");
        Check.due("not told: two give 1", x.lets(0, Check.row(0, 1, 1), 9), 1);
        Check.due("not told: one gives 1", x.lets(0, Check.row(1, 1, 0), 9), 0);
        Check.due("any 0, and no others", Check.with("1 if any 0 give 3").lets(0, 0, 9), 1);
        Check.due("any 1, and no others", Check.with("1 if any 1 give 0").lets(0, 3, 9), 0);
        Check.due("any 6 of six is never", Check.with("1 if any 6 give 0", "0", "0", "0", "0", "0").lets(0, 4095, 9), 0);
    }

    /** Each stretch of persons, and one giver at a time. */
    private static void fromTo() {
        for (int from = 0; from <= 5; from++) {
            for (int to = from; to <= 5; to++) {
                String range = " of " + from + " to " + to;
                IfYouWill x = Check.with("0", "0", "1 if any 1" + range, "1 if all" + range + " give 2", "0", "0");
                for (int q = 0; q <= 5; q++) {
                    boolean within = from <= q && q <= to;
                    int one = 1 << 2 * q;
                    Check.due("any 1" + range + " by " + q, x.lets(2, one, 9), within && q != 2 ? 1 : 0);
                    Check.due("all" + range + " but " + q, x.lets(3, 0xaaa - one, 9), within && q != 3 ? 0 : 1);
                }
            }
        }
        Check.due("all of oneself alone", Check.with("0", "1 if all of 1 to 1 give 3").lets(1, 0, 9), 1);
        Check.due("any of oneself alone", Check.with("0", "1 if any 1 of 1 to 1 give 0").lets(1, 15, 9), 0);
        Check.due("all of some that there are not", Check.with("1 if all of 1 to 5", "0").lets(0, 4, 9), 1);
        Check.due("all of nobody that there is", Check.with("1 if all of 2 to 5 give 3", "0").lets(0, 0, 9), 1);
        Check.due("any of nobody that there is", Check.with("1 if any 1 of 2 to 5 give 0", "0").lets(0, 15, 9), 0);
    }

    private static void sums() {
        for (int asked = 0; asked <= 18; asked++) {
            IfYouWill x = Check.with("0", "0", "0", "0", "0", "1 if sum " + asked);
            for (int sum = 0; sum <= 15; sum++) {
                int row = 3 << 10;
                for (int k = 0; k < sum; k++) {
                    row += 1 << 2 * (k % 5);
                }
                Check.due("sum " + asked + " by " + sum, x.lets(5, row, 9), sum >= asked ? 1 : 0);
            }
        }
        Check.due("sum 0, and no others", Check.with("1 if sum 0").lets(0, 0, 9), 1);
        Check.due("sum 1, and no others", Check.with("1 if sum 1").lets(0, 3, 9), 0);
    }

    private static void days() {
        for (int told = 1; told <= 9; told++) {
            IfYouWill x = Check.with("1 if day " + told);
            for (int day = 1; day <= 9; day++) {
                Check.due("day " + told + " on " + day, x.lets(0, 0, day), day <= told ? 1 : 0);
            }
        }
    }

    private static void notAndOr() {
        IfYouWill x = Check.with("1 if who 1 or who 2 and who 3", "1 if who 0 and who 2 or who 3", "1 if not who 0 and who 1",
                "1 if (who 0 or who 1) and who 2");
        IfYouWill y = Check.with("1 if not who 1 or who 2", "1 if not (who 0 or who 2)", "1 if not not who 0",
                "1 if who 0 and not (who 1 and not who 2)");
        for (int bits = 0; bits < 16; bits++) {
            boolean a = bits % 2 == 1;
            boolean b = bits / 2 % 2 == 1;
            boolean c = bits / 4 % 2 == 1;
            boolean d = bits / 8 == 1;
            int row = Check.row(a ? 1 : 0, b ? 1 : 0, c ? 1 : 0, d ? 1 : 0);
            Check.due("or, and", x.lets(0, row, 9), b || c && d ? 1 : 0);
            Check.due("and, or", x.lets(1, row, 9), a && c || d ? 1 : 0);
            Check.due("not, and", x.lets(2, row, 9), !a && b ? 1 : 0);
            Check.due("brackets, and", x.lets(3, row, 9), (a || b) && c ? 1 : 0);
            Check.due("not, or", y.lets(0, row, 9), !b || c ? 1 : 0);
            Check.due("not of brackets", y.lets(1, row, 9), !(a || c) ? 1 : 0);
            Check.due("not not", y.lets(2, row, 9), a ? 1 : 0);
            Check.due("not within brackets within not", y.lets(3, row, 9), a && !(b && !c) ? 1 : 0);
        }
    }

    /** As much as can wait in 120 bytes for what comes behind: 'or' and 'and', six brackets deep. */
    private static void longPiles() {
        String deep = "2 if " + "day1or day9and(".repeat(6) + "day1or who1" + ")".repeat(6);
        IfYouWill x = Check.with(deep, "0");
        Check.due("six deep it holds", x.lets(0, Check.row(0, 1), 9), 2);
        Check.due("six deep it does not", x.lets(0, 0, 9), 0);
        Check.due("the first of all holds", x.lets(0, 0, 1), 2);
        String broken = "2 if " + "day1or day9and(".repeat(3) + "day1or day2and(" + "day1or day9and(".repeat(2) + "day1or who1" + ")".repeat(6);
        Check.due("broken in the midst", Check.with(broken, "0").lets(0, Check.row(0, 1), 9), 0);
        String wide = "2 if day1" + "or day1".repeat(15);
        Check.due("many, none holds", Check.with(wide, "0").lets(0, 0, 9), 0);
        Check.due("many, the last holds", Check.with(wide + "or all", "0").lets(0, Check.row(0, 1), 9), 2);
        String narrow = "2 if day9" + "and day9".repeat(13);
        Check.due("many, all hold", Check.with(narrow, "0").lets(0, 0, 9), 2);
        Check.due("many, the first does not", Check.with("2 if who1" + narrow.substring(9), "0").lets(0, 0, 9), 0);
    }
}
