import java.util.Random;

/** Runs of calls by a seeded chance, each answer held against that of the model. */
public final class ModelTest {
    private final Random chance;
    private final IfYouWill x = new IfYouWill();
    private final Model model = new Model();
    private int n = 4;

    private ModelTest(long seed) {
        chance = new Random(seed);
    }

    public static void main(String[] args) {
        int runs = args.length > 0 ? Integer.parseInt(args[0]) : 1500;
        for (int seed = 0; seed < runs; seed++) {
            new ModelTest(seed).run(seed);
        }
        Check.end("ModelTest");
    }

    private void run(int seed) {
        String name = "run " + seed + ": ";
        int persons = 1 + chance.nextInt(seed % 25 == 0 ? 6 : 4);
        Check.due(name + "persons(" + persons + ")", x.persons(persons), model.persons(persons));
        n = persons;
        for (int p = 0; p < n; p++) {
            tell(name, p, words());
        }
        for (int call = 0; call < 60; call++) {
            switch (chance.nextInt(12)) {
                case 0:
                    tell(name, number(0, n - 1), chance.nextInt(3) > 0 ? spoilt(words()) : words());
                    break;
                case 1:
                    int p = number(0, n - 1);
                    int what = number(0, 1);
                    int v = number(0, 99);
                    Check.due(name + "offer(" + p + ", " + what + ", " + v + ")", x.offer(p, what, v), model.offer(p, what, v));
                    break;
                default:
                    ask(name, chance.nextInt(22));
                    break;
            }
        }
        if (chance.nextInt(4) == 0) {
            int again = number(1, 6);
            Check.due(name + "persons(" + again + ")", x.persons(again), model.persons(again));
            Check.due(name + "count(2) then", x.count(2), model.count(2));
            Check.due(name + "fault() then", x.fault(), model.fault());
            Check.due(name + "possible(1, -1) then", x.possible(1, -1), model.possible(1, -1));
        }
    }

    private void tell(String name, int p, String told) {
        String text = told.length() > 130 ? told.substring(0, 130) : told;
        for (int at = 0; at < text.length();) {
            int count = Math.min(1 + chance.nextInt(8), text.length() - at);
            long bytes = Check.packed(text.substring(at, at + count));
            Check.due(name + "feed of [" + text + "]", x.feed(count, bytes), model.feed(count, bytes));
            at += count;
        }
        Check.due(name + "term(" + p + ") of [" + text + "]", x.term(p), model.term(p));
        Check.due(name + "fault() of [" + text + "]", x.fault(), model.fault());
        Check.due(name + "count(1) of [" + text + "]", x.count(1), model.count(1));
        Check.due(name + "count(2) of [" + text + "]", x.count(2), model.count(2));
    }

    private void ask(String name, int call) {
        int p = number(0, n - 1);
        int row = number(0, (1 << 2 * n) - 1);
        int day = number(1, 9);
        int set = number(0, (1 << n) - 1);
        int what = number(0, 1);
        int i = chance.nextBoolean() ? -1 : number(0, 8);
        int goal = chance.nextBoolean() ? number(1, 50 * n) : number(1, 500);
        String arguments = " of p " + p + " row " + row + " day " + day + " set " + set + " what " + what + " i " + i + " goal " + goal;
        int[] both = call < 11 ? first(call, p, row, day, what, i) : second(call, p, row, day, set, what, i, goal);
        Check.due(name + "call " + call + arguments, both[0], both[1]);
    }

    private int[] first(int call, int p, int row, int day, int what, int i) {
        switch (call) {
            case 0: return new int[] {x.lets(p, row, day), model.lets(p, row, day)};
            case 1: return new int[] {x.count(i), model.count(i)};
            case 2: return new int[] {x.grows(p, day, what), model.grows(p, day, what)};
            case 3: return new int[] {x.grows(p, day, -1), model.grows(p, day, -1)};
            case 4: return new int[] {x.judge(row, day), model.judge(row, day)};
            case 5: return new int[] {x.settled(i), model.settled(i)};
            case 6: return new int[] {x.end(what), model.end(what)};
            case 7: return new int[] {x.climb(row, what, 0), model.climb(row, what, 0)};
            case 8: return new int[] {x.climb(row, what, 1), model.climb(row, what, 1)};
            case 9: return new int[] {x.climb(row, what, 2), model.climb(row, what, 2)};
            default: return new int[] {x.hangs(p, row), model.hangs(p, row)};
        }
    }

    private int[] second(int call, int p, int row, int day, int set, int what, int i, int goal) {
        int top = number(0, 99);
        int aim = number(0, 18);
        switch (call) {
            case 11: return new int[] {x.leaving(p, row), model.leaving(p, row)};
            case 12: return new int[] {x.soft(p, row), model.soft(p, row)};
            case 13: return new int[] {x.soft(-1, row), model.soft(-1, row)};
            case 14: return new int[] {x.byDay(day), model.byDay(day)};
            case 15: return new int[] {x.dares(p), model.dares(p)};
            case 16: return new int[] {x.rests(set, goal, top), model.rests(set, goal, top)};
            case 17: return new int[] {x.leastTop(goal), model.leastTop(goal)};
            case 18: return new int[] {x.sly(p, aim, what), model.sly(p, aim, what)};
            case 19: return new int[] {x.possible(set, i), model.possible(set, i)};
            case 20: return new int[] {x.sure(set, p), model.sure(set, p)};
            default: return new int[] {x.telling(set, p), model.telling(set, p)};
        }
    }

    /** A number within its bounds, now and then just or far outside. */
    private int number(int least, int most) {
        switch (chance.nextInt(60)) {
            case 0: return least - 1;
            case 1: return most + 1;
            case 2: return least;
            case 3: return most;
            case 4: return chance.nextInt();
            default: return least + chance.nextInt(most - least + 1);
        }
    }

    private String words() {
        StringBuilder all = new StringBuilder(rule());
        while (chance.nextInt(3) > 0 && all.length() < 80) {
            all.append(" else ").append(rule());
        }
        return all.toString();
    }

    private String rule() {
        String much = switch (chance.nextInt(6)) {
            case 0 -> "as " + chance.nextInt(6);
            case 1 -> "least";
            case 2 -> "most";
            default -> "" + chance.nextInt(4);
        };
        return chance.nextInt(5) == 0 ? much : much + " if " + some(0);
    }

    private String some(int depth) {
        StringBuilder all = new StringBuilder(one(depth));
        while (chance.nextInt(3) == 0) {
            all.append(chance.nextBoolean() ? " and " : " or ").append(one(depth));
        }
        return all.toString();
    }

    private String one(int depth) {
        switch (chance.nextInt(8)) {
            case 0: return depth < 7 ? "not " + one(depth + 1) : "all";
            case 1: return depth < 7 ? "(" + some(depth + 1) + ")" : "all";
            case 2: return "who " + chance.nextInt(6) + (chance.nextBoolean() ? "" : " gives " + chance.nextInt(4));
            case 3: return "all" + range() + give();
            case 4: return "any " + chance.nextInt(1 + n) + range() + give();
            case 5: return "day " + (1 + chance.nextInt(9));
            default: return "sum " + chance.nextInt(1 + 3 * n);
        }
    }

    private String range() {
        int from = chance.nextInt(6);
        return chance.nextBoolean() ? "" : " of " + from + " to " + (from + chance.nextInt(6 - from));
    }

    private String give() {
        return chance.nextBoolean() ? "" : " give " + chance.nextInt(4);
    }

    /** Some small thing in a text is made another: often, but not always, a fault. */
    private String spoilt(String text) {
        String[] pieces = {" ", "  ", "not ", "(", ")", "if", " else ", "0", "1", "7", "19", "123", "of 3 to 1", " give 1",
            " gives 2", "and", " or ", "x", "#", "\t", "\u00ff", " who 2", " all", " any ", " as 3", "sum", "not not not not ", "((((("};
        StringBuilder all = new StringBuilder(text);
        for (int k = 1 + chance.nextInt(2); k > 0; k--) {
            int at = chance.nextInt(all.length() + 1);
            int cut = Math.min(all.length(), at + chance.nextInt(4));
            String piece = chance.nextInt(4) == 0 ? "" : pieces[chance.nextInt(pieces.length)];
            all.replace(at, chance.nextBoolean() ? cut : at, piece);
        }
        return all.toString();
    }
}
