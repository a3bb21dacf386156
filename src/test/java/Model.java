import java.util.ArrayDeque;
import java.util.ArrayList;
import java.util.Arrays;
import java.util.Deque;
import java.util.List;
import java.util.function.IntPredicate;
import java.util.regex.Matcher;
import java.util.regex.Pattern;

/**
 * The document told a second time, in another way: faults by a machine of states, terms by cutting
 * texts at 'else', 'or', 'and', deeds as arrays, and nothing kept from one call to the next.
 */
final class Model {
    static final int NONE = -1, UNKNOWN = -1001, OUTSIDE = -1002, NOT = -1003, FULL = -1004;
    private static final Pattern TOKEN = Pattern.compile("[a-z]+|[0-9]+|[^ ]", Pattern.DOTALL);

    private int n = 4;
    private String text = "";
    private int fault = NONE;
    private final List<List<String>> terms = new ArrayList<>();
    private int[] parts = new int[6];
    private int[] worths = new int[6];

    Model() {
        persons(4);
    }

    int persons(int count) {
        if (count < 1 || count > 6) {
            return OUTSIDE;
        }
        n = count;
        terms.clear();
        for (int p = 0; p < n; p++) {
            terms.add(List.of("0"));
        }
        parts = new int[6];
        worths = new int[6];
        return n;
    }

    int feed(int count, long bytes) {
        if (count < 1 || count > 8) {
            return OUTSIDE;
        }
        if (text.length() + count > 120) {
            return FULL;
        }
        for (int k = count - 1; k >= 0; k--) {
            text += (char) (bytes >>> 8 * k & 255);
        }
        return text.length();
    }

    int term(int p) {
        if (unknown(p)) {
            return UNKNOWN;
        }
        String told = text;
        text = "";
        int[] found = faultOf(told);
        fault = found[1];
        if (found[0] != 0) {
            return -10 - found[0];
        }
        terms.set(p, tokens(told));
        return cut(terms.get(p), "else").size();
    }

    int fault() {
        return fault;
    }

    private static List<String> tokens(String told) {
        List<String> all = new ArrayList<>();
        for (Matcher m = TOKEN.matcher(told); m.find();) {
            all.add(m.group());
        }
        return all;
    }

    // ---- faults: what may stand behind what

    /** The state behind a word: a state, or null where the word cannot stand. */
    private static String behind(String state, String word) {
        switch (state + " " + word) {
            case "much least": case "much most":
                return "muched";
            case "much as":
                return "P muched";
            case "muched if": case "oned and": case "oned or":
                return "one";
            case "muched else": case "oned else":
                return "much";
            case "one who":
                return "P whoed";
            case "one all":
                return "alled";
            case "one any":
                return "M alled";
            case "one sum":
                return "S oned";
            case "one day":
                return "D oned";
            case "whoed gives": case "alled give": case "ranged give":
                return "N oned";
            case "alled of":
                return "P ofed";
            case "ofed to":
                return "T ranged";
            default:
                boolean loose = state.equals("whoed") || state.equals("alled") || state.equals("ranged");
                return loose ? behind("oned", word) : null;
        }
    }

    private static boolean isOned(String state) {
        return List.of("oned", "whoed", "alled", "ranged").contains(state);
    }

    private static void dropNots(Deque<String> open) {
        while (!open.isEmpty() && open.peek().equals("not")) {
            open.pop();
        }
    }

    /** Number and place of the first fault; 0 and NONE. */
    private static int[] faultOf(String told) {
        Deque<String> open = new ArrayDeque<>();
        String state = "much";
        int former = 0;
        Matcher m = TOKEN.matcher(told);
        while (m.find()) {
            String t = m.group();
            int[] misplaced = {1, m.start()};
            if (Character.isDigit(t.charAt(0)) && t.charAt(0) < 128) {
                String kind = state.equals("much") ? "N" : state.substring(0, 1);
                String next = state.equals("much") ? "muched" : state.substring(state.indexOf(' ') + 1);
                int at = List.of("N", "P", "M", "S", "D", "T").indexOf(kind);
                if (at < 0) {
                    return misplaced;
                }
                int least = kind.equals("D") ? 1 : 0;
                int most = new int[] {3, 5, 6, 18, 9, 5}[at];
                int value = t.length() > 2 ? 999 : Integer.parseInt(t);
                if (value < least || value > most) {
                    return new int[] {2, m.start()};
                }
                if (kind.equals("T") && value < former) {
                    return new int[] {3, m.start()};
                }
                former = value;
                state = next;
            } else if (state.equals("one") && (t.equals("not") || t.equals("("))) {
                if (open.size() == 6) {
                    return new int[] {4, m.start()};
                }
                open.push(t);
            } else if (t.equals(")")) {
                if (!isOned(state)) {
                    return misplaced;
                }
                dropNots(open);
                if (open.isEmpty()) {
                    return misplaced;
                }
                open.pop();
                state = "oned";
            } else {
                String next = behind(state, t);
                if (next == null) {
                    return misplaced;
                }
                if (isOned(state) && List.of("and", "or", "else").contains(t)) {
                    dropNots(open);
                    if (t.equals("else") && !open.isEmpty()) {
                        return misplaced;
                    }
                }
                state = next;
            }
        }
        dropNots(open);
        boolean whole = state.equals("muched") || isOned(state) && open.isEmpty();
        return whole ? new int[] {0, NONE} : new int[] {1, told.length()};
    }

    // ---- what a term lets

    /** Cuts at a word that stands in no brackets. */
    private static List<List<String>> cut(List<String> tokens, String word) {
        List<List<String>> all = new ArrayList<>();
        List<String> now = new ArrayList<>();
        int depth = 0;
        for (String t : tokens) {
            depth += t.equals("(") ? 1 : t.equals(")") ? -1 : 0;
            if (depth == 0 && t.equals(word)) {
                all.add(now);
                now = new ArrayList<>();
            } else {
                now.add(t);
            }
        }
        all.add(now);
        return all;
    }

    private int lets(List<String> tokens, int own, int[] row, int day) {
        for (List<String> rule : cut(tokens, "else")) {
            List<List<String>> halves = cut(rule, "if");
            if (halves.size() == 1 || holds(halves.get(1), own, row, day)) {
                return much(halves.get(0), own, row);
            }
        }
        return 0;
    }

    private int does(int own, int[] row, int q) {
        return q == own || q >= n ? 0 : row[q];
    }

    private int much(List<String> words, int own, int[] row) {
        switch (words.get(0)) {
            case "as":
                return does(own, row, Integer.parseInt(words.get(1)));
            case "least":
                return others(own, 0, 5).stream().mapToInt(q -> row[q]).min().orElse(0);
            case "most":
                return others(own, 0, 5).stream().mapToInt(q -> row[q]).max().orElse(0);
            default:
                return Integer.parseInt(words.get(0));
        }
    }

    private List<Integer> others(int own, int from, int to) {
        List<Integer> all = new ArrayList<>();
        for (int q = 0; q < n; q++) {
            if (q != own && from <= q && q <= to) {
                all.add(q);
            }
        }
        return all;
    }

    private boolean holds(List<String> some, int own, int[] row, int day) {
        List<List<String>> ors = cut(some, "or");
        if (ors.size() > 1) {
            return ors.stream().anyMatch(each -> holds(each, own, row, day));
        }
        List<List<String>> ands = cut(some, "and");
        if (ands.size() > 1) {
            return ands.stream().allMatch(one -> holds(one, own, row, day));
        }
        int last = some.size() - 1;
        switch (some.get(0)) {
            case "not":
                return !holds(some.subList(1, some.size()), own, row, day);
            case "(":
                return holds(some.subList(1, last), own, row, day);
            case "sum":
                return others(own, 0, 5).stream().mapToInt(q -> row[q]).sum() >= Integer.parseInt(some.get(1));
            case "day":
                return day <= Integer.parseInt(some.get(1));
            default:
                return gives(some, own, row);
        }
    }

    private boolean gives(List<String> one, int own, int[] row) {
        int last = one.size() - 1;
        boolean told = last > 1 && one.get(last - 1).startsWith("give") || last == 2 && one.get(1).equals("give");
        int much = told ? Integer.parseInt(one.get(last)) : 1;
        if (one.get(0).equals("who")) {
            return does(own, row, Integer.parseInt(one.get(1))) >= much;
        }
        int of = one.indexOf("of");
        int from = of < 0 ? 0 : Integer.parseInt(one.get(of + 1));
        int to = of < 0 ? 5 : Integer.parseInt(one.get(of + 3));
        List<Integer> asked = others(own, from, to);
        long giving = asked.stream().filter(q -> row[q] >= much).count();
        return giving >= (one.get(0).equals("all") ? asked.size() : Integer.parseInt(one.get(1)));
    }

    // ---- bounds, rows

    private boolean unknown(int p) {
        return p < 0 || p >= n;
    }

    private boolean unknownBits(int set) {
        return set < 0 || set >= Math.pow(2, n);
    }

    private int rows() {
        return (int) Math.pow(4, n);
    }

    private boolean noRow(int row) {
        return row < 0 || row >= rows();
    }

    private static boolean no(int number, int least, int most) {
        return number < least || number > most;
    }

    private int[] deeds(int row) {
        int[] deeds = new int[n];
        int rest = row;
        for (int p = 0; p < n; p++) {
            deeds[p] = rest % 4;
            rest /= 4;
        }
        return deeds;
    }

    private static int number(int[] deeds) {
        int row = 0;
        for (int p = deeds.length - 1; p >= 0; p--) {
            row = 4 * row + deeds[p];
        }
        return row;
    }

    private static int sum(int[] deeds) {
        return Arrays.stream(deeds).sum();
    }

    private int let(int p, int[] deeds, int day) {
        return lets(terms.get(p), p, deeds, day);
    }

    // ---- the calls

    int lets(int p, int row, int day) {
        return unknown(p) ? UNKNOWN : noRow(row) || no(day, 1, 9) ? OUTSIDE : let(p, deeds(row), day);
    }

    int count(int what) {
        switch (what) {
            case 0:
                return n;
            case 1:
                return text.length();
            case 2:
                return terms.stream().mapToInt(t -> cut(t, "else").size()).sum();
            case 3:
                int all = 0;
                for (int p = 0; p < n; p++) {
                    all += grows(p, 9, NONE);
                }
                return all;
            default:
                return OUTSIDE;
        }
    }

    int grows(int p, int day, int what) {
        if (unknown(p)) {
            return UNKNOWN;
        }
        if (no(day, 1, 9) || no(what, -1, 1)) {
            return OUTSIDE;
        }
        for (int row = 0; row < rows(); row++) {
            int[] deeds = deeds(row);
            for (int q = 0; q < n && deeds[p] == 0; q++) {
                if (q != p && deeds[q] < 3) {
                    int[] more = deeds.clone();
                    more[q]++;
                    if (let(p, more, day) < let(p, deeds, day)) {
                        return what == NONE ? 0 : what == 0 ? row : q;
                    }
                }
            }
        }
        return what == NONE ? 1 : NONE;
    }

    int judge(int row, int day) {
        if (noRow(row) || no(day, 1, 9)) {
            return OUTSIDE;
        }
        int[] deeds = deeds(row);
        for (int p = 0; p < n; p++) {
            if (deeds[p] != let(p, deeds, day)) {
                return p;
            }
        }
        return NONE;
    }

    private List<Integer> possibles(IntPredicate sealed) {
        List<Integer> all = new ArrayList<>();
        for (int row = 0; row < rows(); row++) {
            int[] deeds = deeds(row);
            boolean fits = true;
            for (int p = 0; p < n && fits; p++) {
                fits = sealed.test(p) || deeds[p] == let(p, deeds, 9);
            }
            if (fits) {
                all.add(row);
            }
        }
        return all;
    }

    private static int ith(List<Integer> all, int i) {
        return i == NONE ? all.size() : i < 0 || i >= all.size() ? NONE : all.get(i);
    }

    int settled(int i) {
        return ith(possibles(p -> false), i);
    }

    int end(int what) {
        if (no(what, 0, 1)) {
            return OUTSIDE;
        }
        int sign = what == 0 ? -1 : 1;
        return possibles(p -> false).stream()
                .min((a, b) -> sign * (sum(deeds(a)) - sum(deeds(b)))).orElse(NONE);
    }

    /** The rows of a climb: the last one has come before. */
    private List<Integer> climbed(int row, int way, int teller, int word) {
        List<Integer> all = new ArrayList<>();
        int here = row;
        while (!all.contains(here)) {
            all.add(here);
            int[] old = deeds(here);
            int[] now = old.clone();
            for (int p = 0; p < n; p++) {
                now[p] = p == teller ? word : let(p, way == 0 ? old : now, 9);
            }
            here = number(now);
        }
        all.add(here);
        return all;
    }

    private static int rest(List<Integer> climbed) {
        int last = climbed.size() - 1;
        return climbed.get(last).equals(climbed.get(last - 1)) ? climbed.get(last) : NONE;
    }

    int climb(int row, int way, int what) {
        if (noRow(row) || no(way, 0, 1) || no(what, 0, 2)) {
            return OUTSIDE;
        }
        List<Integer> rows = climbed(row, way, NONE, 0);
        int last = rows.size() - 1;
        int first = rows.indexOf(rows.get(last));
        return what == 0 ? rest(rows) : what == 1 ? first : last - first;
    }

    int hangs(int p, int row) {
        if (unknown(p)) {
            return UNKNOWN;
        }
        if (noRow(row)) {
            return OUTSIDE;
        }
        int set = 0;
        for (int q = 0; q < n; q++) {
            for (int d = 0; d < 4; d++) {
                int[] deeds = deeds(row);
                deeds[q] = d;
                if (let(p, deeds, 9) != let(p, deeds(row), 9)) {
                    set |= 1 << q;
                }
            }
        }
        return set;
    }

    int leaving(int p, int row) {
        if (unknown(p)) {
            return UNKNOWN;
        }
        if (noRow(row)) {
            return OUTSIDE;
        }
        int rest = rest(climbed(row, 0, p, 0));
        return rest == NONE ? NONE : 100 + sum(deeds(row)) - sum(deeds(rest));
    }

    int soft(int p, int row) {
        if (p != NONE && unknown(p)) {
            return UNKNOWN;
        }
        if (noRow(row)) {
            return OUTSIDE;
        }
        if (p != NONE) {
            return softest(new ArrayList<>(terms.get(p)), 0, 0, p, deeds(row));
        }
        int all = 0;
        for (int q = 0; q < n; q++) {
            int one = soft(q, row);
            if (one == NONE) {
                return NONE;
            }
            all += one;
        }
        return all;
    }

    /** The fewest ones less from a token on, when some have been taken already. */
    private int softest(List<String> tokens, int from, int taken, int p, int[] row) {
        if (from == tokens.size()) {
            return lets(tokens, p, row, 9) == row[p] ? taken : NONE;
        }
        int best = softest(tokens, from + 1, taken, p, row);
        String told = tokens.get(from);
        String ahead = from == 0 ? "" : tokens.get(from - 1);
        if (List.of("gives", "give", "any", "sum", "day").contains(ahead)) {
            int least = ahead.equals("day") ? 1 : 0;
            int value = Integer.parseInt(told);
            for (int less = 1; taken + less <= 3 && value - less >= least; less++) {
                tokens.set(from, String.valueOf(value - less));
                int one = softest(tokens, from + 1, taken + less, p, row);
                best = best == NONE || one != NONE && one < best ? one : best;
            }
            tokens.set(from, told);
        }
        return best;
    }

    int byDay(int day) {
        if (no(day, 0, 9)) {
            return OUTSIDE;
        }
        int[] done = new int[n];
        for (int d = 1; d <= day; d++) {
            int[] next = new int[n];
            for (int p = 0; p < n; p++) {
                next[p] = Math.max(done[p], let(p, done, d));
            }
            done = next;
        }
        return number(done);
    }

    int dares(int p) {
        if (unknown(p)) {
            return UNKNOWN;
        }
        for (int d = 1; d <= 9; d++) {
            if (deeds(byDay(d))[p] > 0) {
                return d;
            }
        }
        return NONE;
    }

    int offer(int p, int what, int v) {
        if (unknown(p)) {
            return UNKNOWN;
        }
        if (no(what, 0, 1) || no(v, 0, 99)) {
            return OUTSIDE;
        }
        int[] money = what == 0 ? parts : worths;
        int was = money[p];
        money[p] = v;
        return was;
    }

    private int pledged(boolean[] who) {
        int all = 0;
        for (int p = 0; p < n; p++) {
            all += who[p] ? parts[p] : 0;
        }
        return all;
    }

    private int has(boolean[] who, int p, int goal, int top) {
        if (pledged(who) >= goal) {
            return worths[p] - (who[p] ? parts[p] : 0);
        }
        return who[p] ? top : 0;
    }

    private boolean[] members(int set) {
        boolean[] who = new boolean[n];
        for (int p = 0; p < n; p++) {
            who[p] = (set >> p) % 2 == 1;
        }
        return who;
    }

    int rests(int set, int goal, int top) {
        if (unknownBits(set)) {
            return UNKNOWN;
        }
        if (no(goal, 1, 500) || no(top, 0, 99)) {
            return OUTSIDE;
        }
        for (int p = 0; p < n; p++) {
            boolean[] who = members(set);
            int now = has(who, p, goal, top);
            who[p] = !who[p];
            if (has(who, p, goal, top) > now) {
                return 0;
            }
        }
        return 1;
    }

    int leastTop(int goal) {
        if (no(goal, 1, 500)) {
            return OUTSIDE;
        }
        for (int top = 0; top < 100; top++) {
            int rest = 0;
            int short_ = 0;
            for (int set = 0; set < Math.pow(2, n); set++) {
                rest += rests(set, goal, top);
                short_ += rests(set, goal, top) == 1 && pledged(members(set)) < goal ? 1 : 0;
            }
            if (rest > 0 && short_ == 0) {
                return top;
            }
        }
        return NONE;
    }

    int sly(int p, int aim, int what) {
        if (unknown(p)) {
            return UNKNOWN;
        }
        if (no(aim, 0, 18) || no(what, 0, 1)) {
            return OUTSIDE;
        }
        int best = 4;
        int most = Integer.MIN_VALUE;
        for (int word : new int[] {4, 0, 1, 2, 3}) {
            int rest = rest(climbed(rows() - 1, 0, word == 4 ? NONE : p, word));
            int has = 0;
            if (rest != NONE) {
                int[] deeds = deeds(rest);
                has = (sum(deeds) >= aim ? worths[p] : 0) - 10 * deeds[p];
            }
            if (has > most) {
                most = has;
                best = word;
            }
        }
        return what == 0 ? best : 1000 + most;
    }

    int possible(int set, int i) {
        return unknownBits(set) ? UNKNOWN : ith(possibles(p -> members(set)[p]), i);
    }

    int sure(int set, int p) {
        if (unknownBits(set) || unknown(p)) {
            return UNKNOWN;
        }
        int[] all = possibles(q -> members(set)[q]).stream().mapToInt(row -> deeds(row)[p]).distinct().toArray();
        return all.length == 1 ? all[0] : NONE;
    }

    int telling(int set, int p) {
        if (unknownBits(set) || unknown(p)) {
            return UNKNOWN;
        }
        if (!members(set)[p]) {
            return NOT;
        }
        return possible(set, NONE) - possible(set - (1 << p), NONE);
    }
}
