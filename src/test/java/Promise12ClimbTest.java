/** The edges of promise 12: climb. */
public final class Promise12ClimbTest {
    private static final int NONE = IfYouWill.NONE, OUTSIDE = IfYouWill.OUTSIDE;
    private static final int AT_ONCE = 0, ONE_BY_ONE = 1;

    private Promise12ClimbTest() {
    }

    public static void main(String[] args) {
        outsideRows();
        outsideWays();
        outsideWhats();
        asking();
        firstAndLastRow();
        atRestFromTheStart();
        restAfterOneStep();
        restAfterMany();
        roundFromTheStart();
        roundAfterSome();
        theLongestRounds();
        nearlyAllRows();
        oneByOneByWhatIsSoThen();
        onDayNine();
        Check.end("Promise12ClimbTest");
    }

    private static void climb(String what, IfYouWill x, int row, int way, int rest, int steps, int rows) {
        Check.due(what + ": rest", x.climb(row, way, 0), rest);
        Check.due(what + ": steps", x.climb(row, way, 1), steps);
        Check.due(what + ": rows", x.climb(row, way, 2), rows);
    }

    private static void outsideRows() {
        for (int row : Edges.beyond(0, 255)) {
            Edges.refused("climb(" + row + ", 0, 0)", OUTSIDE, x -> x.climb(row, 0, 0));
        }
    }

    private static void outsideWays() {
        for (int way : Edges.beyond(0, 1)) {
            Edges.refused("climb(0, " + way + ", 0)", OUTSIDE, x -> x.climb(0, way, 0));
        }
    }

    private static void outsideWhats() {
        for (int what : Edges.beyond(0, 2)) {
            Edges.refused("climb(0, 0, " + what + ")", OUTSIDE, x -> x.climb(0, 0, what));
        }
        Edges.refused("climb(-1, 2, 3)", OUTSIDE, x -> x.climb(-1, 2, 3));
    }

    private static void asking() {
        Edges.changeNothing("climb", x -> {
            for (int row = 0; row < 256; row += 7) {
                x.climb(row, AT_ONCE, 0);
                x.climb(row, ONE_BY_ONE, 2);
            }
        });
    }

    private static void firstAndLastRow() {
        for (int n = 1; n <= 6; n++) {
            IfYouWill x = new IfYouWill();
            x.persons(n);
            Check.tell(x, n - 1, "1");
            int rest = 1 << 2 * (n - 1);
            for (int way = AT_ONCE; way <= ONE_BY_ONE; way++) {
                climb("the first row of " + n, x, 0, way, rest, 1, 1);
                climb("the last row of " + n, x, Edges.rows(n) - 1, way, rest, 1, 1);
                Check.due("one more than those of " + n, x.climb(Edges.rows(n), way, 0), OUTSIDE);
            }
        }
    }

    private static void atRestFromTheStart() {
        IfYouWill x = Check.with("as 1", "as 0");
        for (int deed = 0; deed <= 3; deed++) {
            climb("at once", x, 5 * deed, AT_ONCE, 5 * deed, 0, 1);
            climb("one by one", x, 5 * deed, ONE_BY_ONE, 5 * deed, 0, 1);
        }
    }

    private static void restAfterOneStep() {
        IfYouWill x = Check.with("3", "2");
        climb("at once", x, 0, AT_ONCE, Check.row(3, 2), 1, 1);
        climb("one by one", x, 0, ONE_BY_ONE, Check.row(3, 2), 1, 1);
    }

    private static void restAfterMany() {
        IfYouWill x = Check.with("3", "as 0", "as 1", "as 2", "as 3", "as 4");
        climb("each the next, at once", x, 0, AT_ONCE, 4095, 6, 1);
        climb("each the next, one by one", x, 0, ONE_BY_ONE, 4095, 1, 1);
        x = Check.with("as 1", "as 2", "as 3", "as 4", "as 5", "3");
        climb("against the numbers, at once", x, 0, AT_ONCE, 4095, 6, 1);
        climb("against the numbers, one by one", x, 0, ONE_BY_ONE, 4095, 6, 1);
    }

    private static void roundFromTheStart() {
        IfYouWill x = Check.with("as 1", "as 0");
        climb("two change places, at once", x, Check.row(1, 0), AT_ONCE, NONE, 0, 2);
        climb("one by one the second follows", x, Check.row(1, 0), ONE_BY_ONE, 0, 1, 1);
        x = Check.with("1 if not who 1", "as 0");
        climb("round one by one", x, 0, ONE_BY_ONE, NONE, 0, 2);
    }

    private static void roundAfterSome() {
        IfYouWill x = Check.with("1 if not who 1", "1 if who 0");
        climb("one step ahead", x, Check.row(2, 2), AT_ONCE, NONE, 1, 4);
        climb("none ahead", x, Check.row(1, 1), AT_ONCE, NONE, 0, 4);
        climb("from all 3, one by one", x, Check.row(3, 3), ONE_BY_ONE, NONE, 1, 2);
        // a tail of two ahead of a round of four
        x = Check.with("3 if who 2 else 1 if not who 1", "1 if who 0", "0");
        climb("two steps ahead", x, Check.row(3, 3, 3), AT_ONCE, NONE, 2, 4);
    }

    /** Six pass on what they do, and the last does what one of the first two alone did: all 63 rows of 0 and 1 but 0. */
    private static void theLongestRounds() {
        IfYouWill x = Check.with("as 1", "as 2", "as 3", "as 4", "as 5", "1 if who 0 and not who 1 or who 1 and not who 0");
        climb("63 rows", x, 1, AT_ONCE, NONE, 0, 63);
        climb("six steps ahead", x, 4095, AT_ONCE, NONE, 6, 63);
        climb("nothing done rests", x, 0, AT_ONCE, 0, 0, 1);
        // the first does one more than the second, and 0 behind 3; the second does as the first
        x = Check.with("1 if not who 1 else 2 if not who 1 gives 2 else 3 if not who 1 gives 3", "as 0");
        climb("counting up at once", x, 0, AT_ONCE, NONE, 0, 8);
        climb("counting up one by one", x, 0, ONE_BY_ONE, NONE, 0, 4);
        climb("from where each is ahead of the other", x, Check.row(0, 1), AT_ONCE, NONE, 0, 8);
    }

    /** Each passes on what it does; the last adds one, but for some rows: of the 4096 rows a round takes 4053. */
    private static void nearlyAllRows() {
        String counts = " else1if not who0else2if not who0gives2else3if not who0gives3";
        IfYouWill x = Check.with("as 1", "as 2", "as 3", "as 4", "as 5", "as0if who3gives1and not who4gives2" + counts);
        climb("nearly all rows, from the first", x, 0, AT_ONCE, NONE, 0, 4053);
        climb("nearly all rows, from the last", x, 4095, AT_ONCE, NONE, 0, 4053);
        x = Check.with("as 1", "as 2", "as 3", "as 4", "as 5", "as0if who3gives1and not who4gives2or not sum1" + counts);
        climb("many steps ahead of a long round", x, 1792, AT_ONCE, NONE, 1948, 1136);
        climb("many steps to a rest", x, 4095, AT_ONCE, 0, 641, 1);
    }

    private static void oneByOneByWhatIsSoThen() {
        IfYouWill x = Check.with("2", "1 if who 0 gives 2", "3 if who 1 and who 0 gives 2");
        climb("one by one in one step", x, 0, ONE_BY_ONE, Check.row(2, 1, 3), 1, 1);
        climb("at once in three", x, 0, AT_ONCE, Check.row(2, 1, 3), 3, 1);
        x = Check.with("1 if who 2", "1 if who 0", "1");
        climb("the last one first, one by one", x, 0, ONE_BY_ONE, Check.row(1, 1, 1), 2, 1);
    }

    private static void onDayNine() {
        IfYouWill x = Check.with("3 if day 8 else 1", "2 if day 9");
        climb("on the last day", x, 0, AT_ONCE, Check.row(1, 2), 1, 1);
        climb("on the last day, one by one", x, 0, ONE_BY_ONE, Check.row(1, 2), 1, 1);
    }
}
