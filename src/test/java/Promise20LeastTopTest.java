/** The edges of promise 20: leastTop. */
public final class Promise20LeastTopTest {
    private static final int NONE = IfYouWill.NONE, OUTSIDE = IfYouWill.OUTSIDE;

    private Promise20LeastTopTest() {
    }

    public static void main(String[] args) {
        outside();
        asking();
        boundsOfTheGoal();
        noTopIsNeeded();
        aTopOfOne();
        noneIsEnough();
        justWorthIt();
        justShort();
        Check.end("Promise20LeastTopTest");
    }

    private static void least(String what, int goal, int due, int... partsAndWorths) {
        Check.due(what, Check.dyke(partsAndWorths).leastTop(goal), due);
    }

    private static void outside() {
        for (int goal : Edges.beyond(1, 500)) {
            Edges.refused("leastTop(" + goal + ")", OUTSIDE, x -> x.leastTop(goal));
        }
    }

    private static void asking() {
        Edges.changeNothing("leastTop", x -> {
            for (int goal = 1; goal <= 500; goal += 20) {
                x.leastTop(goal);
            }
        });
    }

    private static void boundsOfTheGoal() {
        least("goal 1", 1, 0, 1, 2);
        least("goal 500, far", 500, NONE, 1, 2);
        int[] all = {99, 99, 99, 99, 99, 99, 99, 99, 99, 99, 99, 99};
        least("goal 500, come to by six", 500, NONE, all);
        int[] more = {84, 85, 84, 85, 84, 85, 84, 85, 84, 85, 84, 85};
        least("goal 500, worth one more to each of six", 500, 1, more);
    }

    private static void noTopIsNeeded() {
        least("one, worth one more", 10, 0, 10, 11);
        least("one, worth far more", 10, 0, 10, 99);
        least("either of two alone", 10, 0, 10, 11, 10, 11);
        least("one with a part of 0 beside", 10, 0, 10, 11, 0, 0);
    }

    /** Without a top nobody begins: nobody rests, short of the goal. */
    private static void aTopOfOne() {
        least("two who need each other", 20, 1, 10, 11, 10, 11);
        least("three who need each other", 30, 1, 10, 11, 10, 11, 10, 11);
    }

    private static void noneIsEnough() {
        least("all together are short", 21, NONE, 10, 99, 10, 99);
        least("just worth it to one: it does not join the other, who has the top", 20, NONE, 10, 10, 10, 11);
        least("no parts", 1, NONE, 0, 99);
        Check.due("a new one", new IfYouWill().leastTop(1), NONE);
    }

    /** One alone rests without pledging, short of the goal, as long as it would have no more by it. */
    private static void justWorthIt() {
        least("not worth it", 10, NONE, 10, 9);
        least("just worth it", 10, NONE, 10, 10);
        least("worth one more", 10, 0, 10, 11);
    }

    private static void justShort() {
        least("the goal itself", 20, 1, 10, 15, 10, 15);
        least("one more than all", 21, NONE, 10, 15, 10, 15);
        least("one less, both needed", 19, 1, 10, 15, 10, 15);
        least("as little as one alone has", 10, 0, 10, 15, 10, 15);
        least("one more than one alone has", 11, 1, 10, 15, 10, 15);
    }
}
