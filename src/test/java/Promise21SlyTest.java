/** The edges of promise 21: sly. */
public final class Promise21SlyTest {
    private static final int UNKNOWN = IfYouWill.UNKNOWN, OUTSIDE = IfYouWill.OUTSIDE;
    private static final int OWN = 4;

    private Promise21SlyTest() {
    }

    public static void main(String[] args) {
        unknown();
        outside();
        unknownAheadOfOutside();
        asking();
        boundsOfTheAim();
        justTheAim();
        eachWord();
        likeOnesTheOwn();
        likeOnesTheLeast();
        neverAtRest();
        fromAllThree();
        lessTenTimesItsDeed();
        itsOwnTermAgain();
        onDayNine();
        Check.end("Promise21SlyTest");
    }

    private static void sly(String what, IfYouWill x, int worth, int aim, int word, int has) {
        x.offer(0, 1, worth);
        Check.due(what + ": the word", x.sly(0, aim, 0), word);
        Check.due(what + ": what it has", x.sly(0, aim, 1), 1000 + has);
    }

    private static void unknown() {
        for (int p : Edges.beyond(0, 3)) {
            Edges.refused("sly(" + p + ", 5, 0)", UNKNOWN, x -> x.sly(p, 5, 0));
        }
    }

    private static void outside() {
        for (int aim : Edges.beyond(0, 18)) {
            Edges.refused("sly(0, " + aim + ", 0)", OUTSIDE, x -> x.sly(0, aim, 0));
        }
        for (int what : Edges.beyond(0, 1)) {
            Edges.refused("sly(0, 5, " + what + ")", OUTSIDE, x -> x.sly(0, 5, what));
        }
    }

    private static void unknownAheadOfOutside() {
        Edges.refused("sly(4, 19, 0)", UNKNOWN, x -> x.sly(4, 19, 0));
        Edges.refused("sly(-1, 5, 2)", UNKNOWN, x -> x.sly(-1, 5, 2));
    }

    private static void asking() {
        Edges.changeNothing("sly", x -> {
            for (int aim = 0; aim <= 18; aim++) {
                x.sly(aim % 4, aim, 0);
                x.sly(aim % 4, aim, 1);
            }
        });
    }

    private static void boundsOfTheAim() {
        IfYouWill six = Check.with("3", "3", "3", "3", "3", "3");
        sly("aim 18, and all do 3", six, 99, 18, OWN, 69);
        sly("aim 17", six, 99, 17, 2, 79);
        sly("aim 15", six, 99, 15, 0, 99);
        sly("aim 0", six, 99, 0, 0, 99);
        sly("aim 0, and nobody does anything", new IfYouWill(), 99, 0, OWN, 99);
        sly("aim 1, and nobody else does anything", new IfYouWill(), 99, 1, 1, 89);
        sly("aim 18 of four is never come to", Check.with("3", "3", "3", "3"), 99, 18, 0, 0);
    }

    private static void justTheAim() {
        IfYouWill x = Check.with("2", "as 0");
        sly("just the aim", x, 30, 4, OWN, 10);
        sly("one more than all do", x, 40, 5, 3, 10);
        sly("one less", x, 30, 3, OWN, 10);
        sly("two less", x, 30, 2, 1, 20);
    }

    private static void eachWord() {
        for (int word = 0; word <= 3; word++) {
            IfYouWill x = Check.with(word == 3 ? "0" : "3", "0");
            sly("an aim of " + word, x, 99, word, word == 0 ? 0 : word, 99 - 10 * word);
            sly("told as its own", Check.with("" + word, "0"), 99, word, OWN, 99 - 10 * word);
        }
    }

    private static void likeOnesTheOwn() {
        sly("as much by 0", Check.with("1", "0"), 10, 1, OWN, 0);
        sly("one more, and it is the own one", Check.with("1", "0"), 11, 1, OWN, 1);
        sly("one less, and it is not", Check.with("1", "0"), 9, 1, 0, 0);
        sly("its own lets 0", Check.with("0 if sum 9 else 0", "2"), 50, 2, OWN, 50);
    }

    private static void likeOnesTheLeast() {
        sly("0 and 2 alike", Check.with("3", "0"), 20, 2, 0, 0);
        // the other does 2 when it does just 2, else nothing
        IfYouWill x = Check.with("3", "0 if who 0 gives 3 else 2 if who 0 gives 2");
        sly("0 and 2 alike, 1 less", x, 20, 4, 0, 0);
        sly("2 has more than 0 and 1", x, 21, 4, 2, 1);
    }

    private static void neverAtRest() {
        // the second goes round with the third as long as the first does less than 2
        IfYouWill x = Check.with("1", "1 if not who 2 or who 0 gives 2", "1 if who 1 or who 0 gives 2");
        sly("nothing, by its own and by 0", x, 0, 0, OWN, 0);
        sly("2 for an aim of 0", x, 99, 0, 2, 79);
        sly("2 has as much as nothing", x, 20, 0, OWN, 0);
        sly("2 has one more", x, 21, 0, 2, 1);
        sly("2 has one less", x, 19, 0, OWN, 0);
        sly("round and round by each word", Check.with("3", "1 if not who 2", "1 if who 1"), 99, 0, OWN, 0);
    }

    private static void fromAllThree() {
        IfYouWill x = Check.with("as 1", "as 0");
        sly("both stay at 3", x, 99, 6, OWN, 69);
        sly("for less it tells less", x, 99, 4, 2, 79);
        sly("what rests at 0 rests at 3, too", Check.with("3 if who 1 gives 3", "3 if who 0 gives 3"), 99, 6, OWN, 69);
        Check.due("of six", Check.with("as 1", "as 2", "as 3", "as 4", "as 5", "as 0").sly(5, 18, 0), 0);
    }

    /** What is below nothing is never the best: 0 has nothing at least. */
    private static void lessTenTimesItsDeed() {
        sly("the own one is 30 below", Check.with("3", "0"), 0, 18, 0, 0);
        sly("the own one is 30 below, and comes to the aim", Check.with("3", "0"), 0, 0, 0, 0);
        sly("short of the aim the deed is paid for as well", Check.with("1", "0"), 99, 6, 0, 0);
        sly("the most of all", Check.with("0", "3"), 99, 3, OWN, 99);
        sly("a worth of 1", Check.with("0", "3"), 1, 3, OWN, 1);
    }

    private static void itsOwnTermAgain() {
        IfYouWill x = Check.with("as 1", "2 else 1");
        sly("it tells 0", x, 50, 2, 0, 50);
        Check.due("its term is its own", x.lets(0, Check.row(0, 3), 9), 3);
        Check.due("rules", x.count(2), 3);
        Check.due("what is settled", x.settled(0), Check.row(2, 2));
    }

    private static void onDayNine() {
        sly("on the last day", Check.with("2 if day 8", "3 if day 8 else 1"), 50, 1, OWN, 50);
    }
}
