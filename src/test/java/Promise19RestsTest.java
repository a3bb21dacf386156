/** The edges of promise 19: rests. */
public final class Promise19RestsTest {
    private static final int UNKNOWN = IfYouWill.UNKNOWN, OUTSIDE = IfYouWill.OUTSIDE;

    private Promise19RestsTest() {
    }

    public static void main(String[] args) {
        unknownBits();
        outside();
        unknownAheadOfOutside();
        asking();
        boundsOfGoalAndTop();
        oneWhoPledges();
        oneWhoDoesNot();
        shortOfTheGoal();
        justTheGoal();
        oneTooMany();
        partsOfNothing();
        allOfSix();
        nobody();
        Check.end("Promise19RestsTest");
    }

    private static void rests(String what, int set, int goal, int top, int due, int... partsAndWorths) {
        Check.due(what, Check.dyke(partsAndWorths).rests(set, goal, top), due);
    }

    private static void unknownBits() {
        for (int set : Edges.beyond(0, 15)) {
            Edges.refused("rests(" + set + ", 20, 1)", UNKNOWN, x -> x.rests(set, 20, 1));
        }
        for (int bit = 4; bit <= 31; bit++) {
            int set = 1 << bit;
            Edges.refused("rests of bit " + bit, UNKNOWN, x -> x.rests(set | 1, 20, 1));
        }
        for (int n = 1; n <= 6; n++) {
            IfYouWill x = new IfYouWill();
            x.persons(n);
            Check.due("all of " + n, x.rests((1 << n) - 1, 1, 0), 1);
            Check.due("one more than " + n, x.rests(1 << n, 1, 0), UNKNOWN);
        }
    }

    private static void outside() {
        for (int goal : Edges.beyond(1, 500)) {
            Edges.refused("rests(1, " + goal + ", 1)", OUTSIDE, x -> x.rests(1, goal, 1));
        }
        for (int top : Edges.beyond(0, 99)) {
            Edges.refused("rests(1, 20, " + top + ")", OUTSIDE, x -> x.rests(1, 20, top));
        }
    }

    private static void unknownAheadOfOutside() {
        Edges.refused("rests(16, 0, 0)", UNKNOWN, x -> x.rests(16, 0, 0));
        Edges.refused("rests(-1, 20, 100)", UNKNOWN, x -> x.rests(-1, 20, 100));
    }

    private static void asking() {
        Edges.changeNothing("rests", x -> {
            for (int set = 0; set < 16; set++) {
                x.rests(set, 20 + set, set % 3);
            }
        });
    }

    private static void boundsOfGoalAndTop() {
        rests("goal 1", 1, 1, 0, 1, 1, 1);
        rests("goal 500", 1, 500, 0, 1, 1, 1);
        rests("top 99", 1, 500, 99, 1, 1, 1);
        rests("top 99 draws", 0, 500, 99, 0, 1, 1);
    }

    /** It has its worth less its part; without pledging it would have nothing. */
    private static void oneWhoPledges() {
        rests("worth less than its part", 1, 10, 0, 0, 10, 9);
        rests("worth as much: nothing is no more", 1, 10, 0, 1, 10, 10);
        rests("worth more", 1, 10, 0, 1, 10, 11);
        rests("a top is not for one who comes to the goal", 1, 10, 99, 0, 10, 9);
    }

    /** It has nothing; by pledging it would have its worth less its part. */
    private static void oneWhoDoesNot() {
        rests("worth less than its part", 0, 10, 0, 1, 10, 9);
        rests("worth as much: nothing more", 0, 10, 0, 1, 10, 10);
        rests("worth more", 0, 10, 0, 0, 10, 11);
        rests("a top is not for one who would come to the goal", 0, 10, 99, 1, 10, 9);
    }

    private static void shortOfTheGoal() {
        rests("it would have no more without", 1, 11, 0, 1, 10, 50);
        rests("it has the top", 1, 11, 1, 1, 10, 0);
        rests("no top: nothing more by pledging", 0, 11, 0, 1, 10, 50);
        rests("a top of 1 is more", 0, 11, 1, 0, 10, 50);
        rests("one has the top, the other would", 1, 30, 1, 0, 10, 50, 10, 50);
        rests("both have it", 3, 30, 1, 1, 10, 50, 10, 50);
        rests("one would rather not come to the goal", 1, 20, 9, 1, 10, 50, 10, 10);
        rests("one would rather come to the goal", 1, 20, 9, 0, 10, 50, 10, 11);
    }

    private static void justTheGoal() {
        rests("just the goal", 3, 20, 0, 1, 10, 10, 10, 10);
        rests("one above the goal, both needed", 3, 19, 0, 1, 10, 10, 10, 10);
        rests("one short of it", 3, 21, 0, 1, 10, 10, 10, 10);
        rests("just the goal, worth too little", 3, 20, 0, 0, 10, 10, 10, 9);
        rests("one short, worth too little", 3, 21, 0, 1, 10, 10, 10, 9);
        rests("one alone comes just to the goal, the other rests", 1, 10, 0, 1, 10, 10, 10, 99);
        rests("one who does not pledge has its worth all the same", 1, 10, 99, 1, 10, 10, 1, 99);
    }

    private static void oneTooMany() {
        rests("each would have more without", 3, 10, 0, 0, 10, 99, 10, 99);
        rests("the goal is one more than the rest", 3, 11, 0, 1, 10, 99, 10, 99);
        rests("the first is needed, the second is not", 3, 20, 0, 0, 20, 99, 1, 99);
        rests("the second is needed, the first is not", 3, 20, 0, 0, 1, 99, 20, 99);
    }

    private static void partsOfNothing() {
        rests("a part of 0 is no less", 3, 10, 0, 1, 10, 10, 0, 0);
        rests("nor more", 1, 10, 0, 1, 10, 10, 0, 0);
        rests("never the goal, but the top", 1, 1, 1, 1, 0, 0);
        rests("who would have the top, too", 0, 1, 1, 0, 0, 0);
    }

    private static void allOfSix() {
        int[] all = {99, 99, 99, 99, 99, 99, 99, 99, 99, 99, 99, 99};
        rests("each of six is needed for 500", 63, 500, 0, 1, all);
        rests("one is too many for 495", 63, 495, 0, 0, all);
        rests("each is needed for 496", 63, 496, 0, 1, all);
        all[11] = 98;
        rests("the last has less than nothing", 63, 500, 0, 0, all);
        rests("five are short of 500", 31, 500, 0, 1, all);
        rests("five are enough for 495", 31, 495, 0, 1, all);
    }

    private static void nobody() {
        rests("nobody, no top", 0, 500, 0, 1, 99, 99, 99, 99);
        rests("nobody, with a top", 0, 500, 1, 0, 99, 99, 99, 99);
        Check.due("nobody of a new one", new IfYouWill().rests(0, 1, 0), 1);
    }
}
