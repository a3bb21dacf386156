import java.util.Arrays;

/**
 * I will if you will: people who would pay for a dyke, each on terms told in a text.
 *
 * A row of deeds is one whole number, two bits for each person; so is a set, one bit for each.
 * Everything that a call needs is made with the object: no call makes an object of its own.
 */
public final class IfYouWill {
    public static final int NONE = -1, UNKNOWN = -1001, OUTSIDE = -1002, NOT = -1003, FULL = -1004;

    private static final int MOST_PERSONS = 6;
    private static final int FIRST_PERSONS = 4;
    private static final int MOST_DEED = 3;
    private static final int MOST_ROWS = 4096;
    private static final int LAST_DAY = 9;
    private static final int TEXT_BYTES = 120;
    private static final int MOST_MONEY = 99;
    private static final int MOST_GOAL = 500;
    private static final int MOST_SUM = 18;
    private static final int MOST_SOFTER = 3;
    private static final int OWN_WORD = 4;
    private static final int FAULT_BASE = -10;
    private static final int LEAVING_BASE = 100;
    private static final int SLY_BASE = 1000;

    private final Text text;
    private final Reader reader;
    private final Village village;
    private final Climbing climbing;
    private final Bargain bargain;

    public IfYouWill() {
        text = new Text();
        reader = new Reader(text);
        village = new Village();
        climbing = new Climbing(village);
        bargain = new Bargain(village);
    }

    // ---- persons, terms

    public int persons(int n) {
        if (!within(n, 1, MOST_PERSONS)) {
            return OUTSIDE;
        }
        village.begin(n);
        return n;
    }

    public int feed(int n, long bytes) {
        if (!within(n, 1, 8)) {
            return OUTSIDE;
        }
        if (!text.hasRoom(n)) {
            return FULL;
        }
        text.append(n, bytes);
        return text.length;
    }

    public int term(int p) {
        if (!village.has(p)) {
            return UNKNOWN;
        }
        boolean read = reader.read();
        text.length = 0;
        if (!read) {
            return FAULT_BASE - reader.faultNumber;
        }
        reader.draft = village.people[p].exchange(reader.draft);
        return village.people[p].words.rules;
    }

    public int fault() {
        return reader.faultAt;
    }

    public int lets(int p, int row, int day) {
        if (!village.has(p)) {
            return UNKNOWN;
        }
        if (!village.hasRow(row) || !within(day, 1, LAST_DAY)) {
            return OUTSIDE;
        }
        return village.people[p].allowed(row, day, village.size);
    }

    public int count(int what) {
        switch (what) {
            case 0:
                return village.size;
            case 1:
                return text.length;
            case 2:
                return village.rules();
            case 3:
                return village.growing(LAST_DAY);
            default:
                return OUTSIDE;
        }
    }

    public int grows(int p, int day, int what) {
        if (!village.has(p)) {
            return UNKNOWN;
        }
        if (!within(day, 1, LAST_DAY) || !within(what, NONE, 1)) {
            return OUTSIDE;
        }
        int row = village.slipRow(p, day);
        if (what == NONE) {
            return row == NONE ? 1 : 0;
        }
        if (row == NONE || what == 0) {
            return row;
        }
        return village.slipBy(p, row, day);
    }

    // ---- settled

    public int judge(int row, int day) {
        if (!village.hasRow(row) || !within(day, 1, LAST_DAY)) {
            return OUTSIDE;
        }
        for (int p = 0; p < village.size; p++) {
            if (village.people[p].allowed(row, day, village.size) != deed(row, p)) {
                return p;
            }
        }
        return NONE;
    }

    public int settled(int i) {
        return i == NONE ? village.possibles(0) : village.possibleAt(0, i);
    }

    public int end(int what) {
        if (!within(what, 0, 1)) {
            return OUTSIDE;
        }
        int best = NONE;
        for (int row = 0; row < village.rows(); row++) {
            if (village.agrees(row, 0) && (best == NONE || isFurther(what, sum(row), sum(best)))) {
                best = row;
            }
        }
        return best;
    }

    public int climb(int row, int way, int what) {
        if (!village.hasRow(row) || !within(way, 0, 1) || !within(what, 0, 2)) {
            return OUTSIDE;
        }
        climbing.start(row, way, NONE, 0);
        if (what == 0) {
            return climbing.rest;
        }
        return what == 1 ? climbing.steps : climbing.round;
    }

    // ---- why, softer

    public int hangs(int p, int row) {
        if (!village.has(p)) {
            return UNKNOWN;
        }
        if (!village.hasRow(row)) {
            return OUTSIDE;
        }
        int set = 0;
        for (int q = 0; q < village.size; q++) {
            if (village.hangsOn(p, q, row)) {
                set |= 1 << q;
            }
        }
        return set;
    }

    public int leaving(int p, int row) {
        if (!village.has(p)) {
            return UNKNOWN;
        }
        if (!village.hasRow(row)) {
            return OUTSIDE;
        }
        climbing.start(row, Climbing.AT_ONCE, p, 0);
        if (climbing.rest == NONE) {
            return NONE;
        }
        return LEAVING_BASE + sum(row) - sum(climbing.rest);
    }

    public int soft(int p, int row) {
        if (p != NONE && !village.has(p)) {
            return UNKNOWN;
        }
        if (!village.hasRow(row)) {
            return OUTSIDE;
        }
        return p == NONE ? village.softness(row) : village.people[p].softness(row, village.size);
    }

    // ---- days, offers

    public int byDay(int day) {
        if (!within(day, 0, LAST_DAY)) {
            return OUTSIDE;
        }
        int row = 0;
        for (int d = 1; d <= day; d++) {
            row = village.nextDay(row, d);
        }
        return row;
    }

    public int dares(int p) {
        if (!village.has(p)) {
            return UNKNOWN;
        }
        int row = 0;
        for (int d = 1; d <= LAST_DAY; d++) {
            row = village.nextDay(row, d);
            if (deed(row, p) > 0) {
                return d;
            }
        }
        return NONE;
    }

    public int offer(int p, int what, int v) {
        if (!village.has(p)) {
            return UNKNOWN;
        }
        if (!within(what, 0, 1) || !within(v, 0, MOST_MONEY)) {
            return OUTSIDE;
        }
        Person person = village.people[p];
        int was = what == 0 ? person.part : person.worth;
        if (what == 0) {
            person.part = v;
        } else {
            person.worth = v;
        }
        return was;
    }

    public int rests(int set, int goal, int top) {
        if (!village.hasAll(set)) {
            return UNKNOWN;
        }
        if (!within(goal, 1, MOST_GOAL) || !within(top, 0, MOST_MONEY)) {
            return OUTSIDE;
        }
        return bargain.isAtRest(set, goal, top) ? 1 : 0;
    }

    public int leastTop(int goal) {
        if (!within(goal, 1, MOST_GOAL)) {
            return OUTSIDE;
        }
        for (int top = 0; top <= MOST_MONEY; top++) {
            if (bargain.reaches(goal, top)) {
                return top;
            }
        }
        return NONE;
    }

    public int sly(int p, int aim, int what) {
        if (!village.has(p)) {
            return UNKNOWN;
        }
        if (!within(aim, 0, MOST_SUM) || !within(what, 0, 1)) {
            return OUTSIDE;
        }
        int best = OWN_WORD;
        int most = gain(p, OWN_WORD, aim);
        for (int word = 0; word <= MOST_DEED; word++) {
            int has = gain(p, word, aim);
            if (has > most) {
                most = has;
                best = word;
            }
        }
        return what == 0 ? best : SLY_BASE + most;
    }

    // ---- sealed

    public int possible(int set, int i) {
        if (!village.hasAll(set)) {
            return UNKNOWN;
        }
        return i == NONE ? village.possibles(set) : village.possibleAt(set, i);
    }

    public int sure(int set, int p) {
        if (!village.hasAll(set) || !village.has(p)) {
            return UNKNOWN;
        }
        int same = NONE;
        for (int row = 0; row < village.rows(); row++) {
            if (village.agrees(row, set)) {
                if (same != NONE && same != deed(row, p)) {
                    return NONE;
                }
                same = deed(row, p);
            }
        }
        return same;
    }

    public int telling(int set, int p) {
        if (!village.hasAll(set) || !village.has(p)) {
            return UNKNOWN;
        }
        if (!isIn(set, p)) {
            return NOT;
        }
        return village.possibles(set) - village.possibles(set ^ 1 << p);
    }

    // ---- what the calls share

    /** What a person has when it tells a word (OWN_WORD: its own term) and all climb from the top. */
    private int gain(int p, int word, int aim) {
        climbing.start(village.rows() - 1, Climbing.AT_ONCE, word == OWN_WORD ? NONE : p, word);
        if (climbing.rest == NONE) {
            return 0;
        }
        int worth = sum(climbing.rest) >= aim ? village.people[p].worth : 0;
        return worth - 10 * deed(climbing.rest, p);
    }

    private static boolean isFurther(int what, int sum, int best) {
        return what == 0 ? sum > best : sum < best;
    }

    private static boolean within(int number, int least, int most) {
        return number >= least && number <= most;
    }

    private static boolean isIn(int set, int p) {
        return (set >> p & 1) == 1;
    }

    private static int deed(int row, int p) {
        return row >> 2 * p & MOST_DEED;
    }

    private static int withDeed(int row, int p, int deed) {
        return row & ~(MOST_DEED << 2 * p) | deed << 2 * p;
    }

    private static int sum(int row) {
        int all = 0;
        for (int p = 0; p < MOST_PERSONS; p++) {
            all += deed(row, p);
        }
        return all;
    }

    /** The text that is being fed, byte by byte. */
    private static final class Text {
        final int[] bytes = new int[TEXT_BYTES];
        int length = 0;

        boolean hasRoom(int more) {
            return length + more <= TEXT_BYTES;
        }

        void append(int more, long packed) {
            for (int k = more - 1; k >= 0 && length < TEXT_BYTES; k--) {
                bytes[length] = (int) (packed >> 8 * k & 255);
                length++;
            }
        }
    }

    /** What one person looks at: the deeds of the others, and the day. */
    private static final class Scene {
        int own = 0;
        int others = 0;
        int day = LAST_DAY;
        int size = 0;

        /** The own deed is wiped out, so that the own number does 0 like one that there is not. */
        void look(int p, int row, int today, int persons) {
            own = p;
            others = withDeed(row, p, 0);
            day = today;
            size = persons;
        }

        int least() {
            int least = size > 1 ? MOST_DEED : 0;
            for (int q = 0; q < size; q++) {
                int does = others >> 2 * q & MOST_DEED;
                if (q != own && does < least) {
                    least = does;
                }
            }
            return least;
        }

        int most() {
            int most = 0;
            for (int q = 0; q < size; q++) {
                int does = others >> 2 * q & MOST_DEED;
                if (does > most) {
                    most = does;
                }
            }
            return most;
        }

        /** Whether one condition holds; only persons that there are count among the others. */
        boolean isSo(int kind, int from, int to, int many, int give) {
            if (kind == Term.STEP_DAY) {
                return day <= many;
            }
            if (kind == Term.STEP_WHO) {
                return (others >> 2 * from & MOST_DEED) >= give;
            }
            int asked = 0;
            int giving = 0;
            int sum = 0;
            for (int q = 0; q < size; q++) {
                int does = others >> 2 * q & MOST_DEED;
                sum += does;
                if (q != own && q >= from && q <= to) {
                    asked++;
                    giving += does >= give ? 1 : 0;
                }
            }
            if (kind == Term.STEP_SUM) {
                return sum >= many;
            }
            return kind == Term.STEP_ANY ? giving >= many : giving == asked;
        }
    }

    /**
     * A term as it has been read: its rules, and the conditions of all rules in one list of steps, in
     * which 'not', 'and', 'or' stand behind what they are about.
     */
    private static final class Term {
        static final int MUCH_NUMBER = 0, MUCH_AS = 1, MUCH_LEAST = 2, MUCH_MOST = 3;
        static final int STEP_NOT = 0, STEP_AND = 1, STEP_OR = 2;
        static final int STEP_WHO = 3, STEP_ALL = 4, STEP_ANY = 5, STEP_SUM = 6, STEP_DAY = 7;
        /** A rule with the 'else' ahead of it takes five bytes or more, a step with its blanks three. */
        static final int MOST_RULES = TEXT_BYTES / 5 + 1;
        static final int MOST_STEPS = TEXT_BYTES / 3;

        private final int[] muchKinds = new int[MOST_RULES];
        private final int[] muchOf = new int[MOST_RULES];
        /** Where the steps of a rule end; they begin where those of the rule ahead of it end. */
        private final int[] ends = new int[MOST_RULES];
        int rules = 0;
        private final int[] kinds = new int[MOST_STEPS];
        private final int[] froms = new int[MOST_STEPS];
        private final int[] tos = new int[MOST_STEPS];
        /** Two for each step: M, S or D, and the N of 'give'. */
        private final int[] numbers = new int[2 * MOST_STEPS];
        private int steps = 0;
        /** The places in numbers of those that the text tells: they alone can be softened. */
        private final int[] softPlaces = new int[2 * MOST_STEPS];
        private int softs = 0;

        Term() {
            becomeZero();
        }

        void becomeZero() {
            wipe();
            addRule(MUCH_NUMBER, 0);
        }

        void wipe() {
            rules = 0;
            steps = 0;
            softs = 0;
        }

        void addRule(int kind, int of) {
            if (rules < MOST_RULES) {
                muchKinds[rules] = kind;
                muchOf[rules] = of;
                ends[rules] = steps;
                rules++;
            }
        }

        /** A step of the latest rule; many and give are NONE where the text tells none. */
        void addStep(int kind, int from, int to, int many, int give) {
            if (steps < MOST_STEPS && rules > 0) {
                kinds[steps] = kind;
                froms[steps] = from;
                tos[steps] = to;
                addNumber(2 * steps, many);
                addNumber(2 * steps + 1, give);
                steps++;
                ends[rules - 1] = steps;
            }
        }

        private void addNumber(int place, int number) {
            numbers[place] = number == NONE ? 1 : number;
            if (number != NONE && softs < softPlaces.length) {
                softPlaces[softs] = place;
                softs++;
            }
        }

        int allowed(Scene scene) {
            int from = 0;
            for (int r = 0; r < rules; r++) {
                if (ends[r] == from || holds(from, ends[r], scene)) {
                    return much(muchKinds[r], muchOf[r], scene);
                }
                from = ends[r];
            }
            return 0;
        }

        private static int much(int kind, int of, Scene scene) {
            switch (kind) {
                case MUCH_AS:
                    return deed(scene.others, of);
                case MUCH_LEAST:
                    return scene.least();
                case MUCH_MOST:
                    return scene.most();
                default:
                    return of;
            }
        }

        /** What has been found so far is a pile of bits, the latest lowest; six brackets keep it low. */
        private boolean holds(int from, int end, Scene scene) {
            int pile = 0;
            for (int s = from; s < end; s++) {
                switch (kinds[s]) {
                    case STEP_NOT:
                        pile ^= 1;
                        break;
                    case STEP_AND:
                        pile = pile >>> 1 & (pile | ~1);
                        break;
                    case STEP_OR:
                        pile = pile >>> 1 | pile & 1;
                        break;
                    default:
                        pile <<= 1;
                        if (scene.isSo(kinds[s], froms[s], tos[s], numbers[2 * s], numbers[2 * s + 1])) {
                            pile |= 1;
                        }
                        break;
                }
            }
            return (pile & 1) == 1;
        }

        /** Whether so many ones less, at softPlaces from a place on, let the wanted deed. */
        private static boolean softens(Term term, int ones, int from, int wanted, Scene scene) {
            if (ones <= 0) {
                return term.allowed(scene) == wanted;
            }
            boolean found = false;
            for (int k = from; k < term.softs && !found; k++) {
                int place = term.softPlaces[k];
                if (term.numbers[place] > term.leastAt(place)) {
                    term.numbers[place]--;
                    found = softens(term, ones - 1, k, wanted, scene);
                    term.numbers[place]++;
                }
            }
            return found;
        }

        private int leastAt(int place) {
            return place % 2 == 0 && kinds[place / 2] == STEP_DAY ? 1 : 0;
        }
    }

    /** Reads a text into a term, or finds its first fault. */
    private static final class Reader {
        static final int TOKEN_BLANK = 0, TOKEN_WORD = 1, TOKEN_NUMBER = 2, TOKEN_SIGN = 3, TOKEN_END = 4;
        static final int MISPLACED = 1, BAD_NUMBER = 2, BACKWARDS = 3, TOO_DEEP = 4;
        static final int MOST_TOKENS = TEXT_BYTES + 1;
        static final int MOST_DEEP = 6;
        static final int LAST_PERSON = MOST_PERSONS - 1;

        private final Text text;
        private final int[] kinds = new int[MOST_TOKENS];
        private final int[] starts = new int[MOST_TOKENS];
        private final int[] stops = new int[MOST_TOKENS];
        private int tokens = 0;
        /** The token that is to be read next; nothing steps over the last one, the end. */
        private int now = 0;
        private int number = 0;
        /** The parts of one condition; NONE where the text tells none. */
        private int many = NONE;
        private int from = 0;
        private int to = 0;
        private int give = NONE;
        /** What is read into: nobody's term as yet, so that a text with a fault spoils none. */
        Term draft = new Term();
        int faultNumber = 0;
        int faultAt = NONE;

        Reader(Text told) {
            text = told;
        }

        boolean read() {
            faultNumber = 0;
            faultAt = NONE;
            draft.wipe();
            split();
            now = 0;
            boolean more = true;
            for (int r = 0; r < MOST_TOKENS && more; r++) {
                if (!readRule()) {
                    return false;
                }
                more = takes("else");
            }
            return kinds[now] == TOKEN_END || fails(MISPLACED);
        }

        private void split() {
            tokens = 0;
            int before = TOKEN_BLANK;
            for (int at = 0; at < text.length; at++) {
                int kind = kindOf(text.bytes[at]);
                boolean joins = kind == TOKEN_WORD || kind == TOKEN_NUMBER;
                if (joins && kind == before && tokens > 0) {
                    stops[tokens - 1] = at + 1;
                } else if (kind != TOKEN_BLANK) {
                    addToken(kind, at, at + 1);
                }
                before = kind;
            }
            addToken(TOKEN_END, text.length, text.length);
        }

        private void addToken(int kind, int start, int stop) {
            if (tokens < MOST_TOKENS) {
                kinds[tokens] = kind;
                starts[tokens] = start;
                stops[tokens] = stop;
                tokens++;
            }
        }

        /** A byte that can stand nowhere is a sign, too: nothing takes it. */
        private static int kindOf(int sign) {
            if (sign == ' ') {
                return TOKEN_BLANK;
            }
            if (sign >= 'a' && sign <= 'z') {
                return TOKEN_WORD;
            }
            return sign >= '0' && sign <= '9' ? TOKEN_NUMBER : TOKEN_SIGN;
        }

        private boolean readRule() {
            return readMuch() && (!takes("if") || readSome(0));
        }

        private boolean readMuch() {
            int kind = Term.MUCH_NUMBER;
            number = 0;
            if (takes("least")) {
                kind = Term.MUCH_LEAST;
            } else if (takes("most")) {
                kind = Term.MUCH_MOST;
            } else if (takes("as")) {
                kind = Term.MUCH_AS;
                if (!readNumber(0, LAST_PERSON)) {
                    return false;
                }
            } else if (!readNumber(0, MOST_DEED)) {
                return false;
            }
            draft.addRule(kind, number);
            return true;
        }

        /** All that 'and' joins, ahead of what 'or' joins. */
        private boolean readSome(int depth) {
            boolean more = true;
            for (int k = 0; k < MOST_TOKENS && more; k++) {
                if (!readOne(depth)) {
                    return false;
                }
                for (int j = 0; j < MOST_TOKENS && takes("and"); j++) {
                    if (!readOne(depth)) {
                        return false;
                    }
                    draft.addStep(Term.STEP_AND, 0, 0, NONE, NONE);
                }
                if (k > 0) {
                    draft.addStep(Term.STEP_OR, 0, 0, NONE, NONE);
                }
                more = takes("or");
            }
            return true;
        }

        private boolean readOne(int depth) {
            if (isWord("not") || isSign('(')) {
                return depth < MOST_DEEP ? readDeeper(depth + 1) : fails(TOO_DEEP);
            }
            forgetParts();
            if (takes("who")) {
                return readPerson() && readGive("gives") && adds(Term.STEP_WHO);
            }
            if (takes("all")) {
                return readRange() && readGive("give") && adds(Term.STEP_ALL);
            }
            if (takes("any")) {
                return readMany(0, MOST_PERSONS) && readRange() && readGive("give") && adds(Term.STEP_ANY);
            }
            if (takes("sum")) {
                return readMany(0, MOST_SUM) && adds(Term.STEP_SUM);
            }
            if (takes("day")) {
                return readMany(1, LAST_DAY) && adds(Term.STEP_DAY);
            }
            return fails(MISPLACED);
        }

        private boolean readDeeper(int depth) {
            if (takes("not")) {
                if (!readOne(depth)) {
                    return false;
                }
                draft.addStep(Term.STEP_NOT, 0, 0, NONE, NONE);
                return true;
            }
            now++;
            if (!readSome(depth)) {
                return false;
            }
            if (!isSign(')')) {
                return fails(MISPLACED);
            }
            now++;
            return true;
        }

        private void forgetParts() {
            many = NONE;
            from = 0;
            to = LAST_PERSON;
            give = NONE;
        }

        private boolean adds(int kind) {
            draft.addStep(kind, from, to, many, give);
            return true;
        }

        private boolean readMany(int least, int most) {
            boolean read = readNumber(least, most);
            many = number;
            return read;
        }

        private boolean readPerson() {
            boolean read = readNumber(0, LAST_PERSON);
            from = number;
            return read;
        }

        private boolean readRange() {
            if (!takes("of")) {
                return true;
            }
            if (!readNumber(0, LAST_PERSON)) {
                return false;
            }
            from = number;
            if (!takes("to")) {
                return fails(MISPLACED);
            }
            if (!readNumber(0, LAST_PERSON)) {
                return false;
            }
            to = number;
            if (to < from) {
                now--;
                return fails(BACKWARDS);
            }
            return true;
        }

        private boolean readGive(String word) {
            if (!takes(word)) {
                return true;
            }
            boolean read = readNumber(0, MOST_DEED);
            give = number;
            return read;
        }

        private boolean readNumber(int least, int most) {
            if (kinds[now] != TOKEN_NUMBER) {
                return fails(MISPLACED);
            }
            if (stops[now] - starts[now] > 2) {
                return fails(BAD_NUMBER);
            }
            number = 0;
            for (int k = starts[now]; k < stops[now]; k++) {
                number = 10 * number + text.bytes[k] - '0';
            }
            if (number < least || number > most) {
                return fails(BAD_NUMBER);
            }
            now++;
            return true;
        }

        private boolean takes(String word) {
            boolean is = isWord(word);
            if (is) {
                now++;
            }
            return is;
        }

        private boolean isWord(String word) {
            if (kinds[now] != TOKEN_WORD || stops[now] - starts[now] != word.length()) {
                return false;
            }
            for (int k = 0; k < word.length(); k++) {
                if (text.bytes[starts[now] + k] != word.charAt(k)) {
                    return false;
                }
            }
            return true;
        }

        private boolean isSign(char sign) {
            return kinds[now] == TOKEN_SIGN && text.bytes[starts[now]] == sign;
        }

        /** The fault is at the token that is to be read now. */
        private boolean fails(int fault) {
            faultNumber = fault;
            faultAt = starts[now];
            return false;
        }
    }

    /** One person: its term, its money, and what the term has already been found to let on one day. */
    private static final class Person {
        /** The others alone have 4 to the 5 rows at most; the answers for eight of them fill an int. */
        static final int KEPT_INTS = MOST_ROWS / 4 / 8;
        static final int NO_DAY = 0;

        private final int number;
        private final Scene scene;
        Term words = new Term();
        int part = 0;
        int worth = 0;
        /** What the term lets on the kept day: four bits for a row, one more than is let; 0: not known. */
        private final int[] kept = new int[KEPT_INTS];
        private int keptDay = NO_DAY;

        Person(int p, Scene shared) {
            number = p;
            scene = shared;
        }

        void begin() {
            words.becomeZero();
            part = 0;
            worth = 0;
            keptDay = NO_DAY;
        }

        /** Takes a new term and hands back the old one, to be read into again. */
        Term exchange(Term newer) {
            Term old = words;
            words = newer;
            keptDay = NO_DAY;
            return old;
        }

        int allowed(int row, int day, int persons) {
            scene.look(number, row, day, persons);
            return words.allowed(scene);
        }

        /** As allowed, for calls that ask for many rows again and again: one day's answers are kept. */
        int allowedOften(int row, int day, int persons) {
            if (keptDay != day) {
                Arrays.fill(kept, 0);
                keptDay = day;
            }
            int below = row & (1 << 2 * number) - 1;
            int above = row >> 2 * number + 2 << 2 * number;
            int place = (below | above) >> 3 & KEPT_INTS - 1;
            int shift = 4 * ((below | above) & 7);
            int known = kept[place] >> shift & 15;
            if (known == 0) {
                scene.look(number, row, day, persons);
                known = words.allowed(scene) + 1;
                kept[place] |= known << shift;
            }
            return known - 1;
        }

        /** The least ones less by which the term lets the own deed in a row. */
        int softness(int row, int persons) {
            scene.look(number, row, LAST_DAY, persons);
            for (int ones = 0; ones <= MOST_SOFTER; ones++) {
                if (Term.softens(words, ones, 0, deed(row, number), scene)) {
                    return ones;
                }
            }
            return NONE;
        }
    }

    /** All persons together, and what their terms let. */
    private static final class Village {
        final Person[] people = new Person[MOST_PERSONS];
        int size = FIRST_PERSONS;

        Village() {
            Scene scene = new Scene();
            for (int p = 0; p < MOST_PERSONS; p++) {
                people[p] = new Person(p, scene);
            }
        }

        void begin(int n) {
            size = n;
            for (int p = 0; p < MOST_PERSONS; p++) {
                people[p].begin();
            }
        }

        boolean has(int p) {
            return within(p, 0, size - 1);
        }

        boolean hasAll(int set) {
            return within(set, 0, (1 << size) - 1);
        }

        boolean hasRow(int row) {
            return within(row, 0, rows() - 1);
        }

        int rows() {
            return 1 << 2 * size;
        }

        int rules() {
            int all = 0;
            for (int p = 0; p < size; p++) {
                all += people[p].words.rules;
            }
            return all;
        }

        int growing(int day) {
            int all = 0;
            for (int p = 0; p < size; p++) {
                if (slipRow(p, day) == NONE) {
                    all++;
                }
            }
            return all;
        }

        int slipRow(int p, int day) {
            for (int row = 0; row < rows(); row++) {
                if (deed(row, p) == 0 && slipBy(p, row, day) != NONE) {
                    return row;
                }
            }
            return NONE;
        }

        int slipBy(int p, int row, int day) {
            int now = people[p].allowedOften(row, day, size);
            for (int q = 0; q < size && now > 0; q++) {
                if (q != p && deed(row, q) < MOST_DEED
                        && people[p].allowedOften(row + (1 << 2 * q), day, size) < now) {
                    return q;
                }
            }
            return NONE;
        }

        /** Whether all but the sealed do in a row what is let at last. */
        boolean agrees(int row, int sealed) {
            for (int p = 0; p < size; p++) {
                if (!isIn(sealed, p) && people[p].allowedOften(row, LAST_DAY, size) != deed(row, p)) {
                    return false;
                }
            }
            return true;
        }

        int possibles(int sealed) {
            int all = 0;
            for (int row = 0; row < rows(); row++) {
                if (agrees(row, sealed)) {
                    all++;
                }
            }
            return all;
        }

        int possibleAt(int sealed, int i) {
            int before = 0;
            for (int row = 0; row < rows() && i >= before; row++) {
                if (agrees(row, sealed)) {
                    if (before == i) {
                        return row;
                    }
                    before++;
                }
            }
            return NONE;
        }

        boolean hangsOn(int p, int q, int row) {
            int now = people[p].allowedOften(row, LAST_DAY, size);
            for (int other = 0; other <= MOST_DEED; other++) {
                if (people[p].allowedOften(withDeed(row, q, other), LAST_DAY, size) != now) {
                    return true;
                }
            }
            return false;
        }

        int softness(int row) {
            int all = 0;
            for (int p = 0; p < size; p++) {
                int ones = people[p].softness(row, size);
                if (ones == NONE) {
                    return NONE;
                }
                all += ones;
            }
            return all;
        }

        int nextDay(int row, int day) {
            int next = row;
            for (int p = 0; p < size; p++) {
                next = withDeed(next, p, Math.max(deed(row, p), people[p].allowed(row, day, size)));
            }
            return next;
        }
    }

    /** Climbing from a row to where it rests, or round and round. */
    private static final class Climbing {
        static final int AT_ONCE = 0;
        /** The mark is met within three times as many steps as there are rows. */
        static final int ENOUGH_STEPS = 4 * MOST_ROWS;

        private final Village village;
        int rest = NONE;
        int steps = 0;
        int round = 0;

        Climbing(Village home) {
            village = home;
        }

        /**
         * One person (NONE: nobody) does a told word, whatever its term lets. The round is measured first,
         * from a mark that is set anew after 1, 2, 4, .. steps till it is met again; then two go on with a
         * round between them, till they meet where it begins. So no list of all rows is needed.
         */
        void start(int row, int way, int teller, int word) {
            int mark = row;
            int ahead = next(row, way, teller, word);
            round = 1;
            int limit = 1;
            for (int k = 0; k < ENOUGH_STEPS && ahead != mark; k++) {
                if (round == limit) {
                    mark = ahead;
                    limit *= 2;
                    round = 0;
                }
                ahead = next(ahead, way, teller, word);
                round++;
            }
            ahead = row;
            for (int k = 0; k < round; k++) {
                ahead = next(ahead, way, teller, word);
            }
            int here = row;
            steps = 0;
            while (here != ahead && steps < ENOUGH_STEPS) {
                here = next(here, way, teller, word);
                ahead = next(ahead, way, teller, word);
                steps++;
            }
            rest = round == 1 ? here : NONE;
        }

        private int next(int row, int way, int teller, int word) {
            int done = row;
            for (int p = 0; p < village.size; p++) {
                int seen = way == AT_ONCE ? row : done;
                int does = p == teller ? word : village.people[p].allowedOften(seen, LAST_DAY, village.size);
                done = withDeed(done, p, does);
            }
            return done;
        }
    }

    /** The offer: who would rather pledge, or not, when the others stay as they are. */
    private static final class Bargain {
        private final Village village;

        Bargain(Village home) {
            village = home;
        }

        boolean isAtRest(int set, int goal, int top) {
            int all = pledged(set);
            for (int p = 0; p < village.size; p++) {
                Person person = village.people[p];
                boolean pledges = isIn(set, p);
                int otherwise = pledges ? all - person.part : all + person.part;
                if (outcome(person, !pledges, otherwise >= goal, top) > outcome(person, pledges, all >= goal, top)) {
                    return false;
                }
            }
            return true;
        }

        /** Whether some set is at rest by this top, and each that is comes to the goal. */
        boolean reaches(int goal, int top) {
            boolean some = false;
            for (int set = 0; set < 1 << village.size; set++) {
                if (isAtRest(set, goal, top)) {
                    if (pledged(set) < goal) {
                        return false;
                    }
                    some = true;
                }
            }
            return some;
        }

        private static int outcome(Person person, boolean pledges, boolean reached, int top) {
            if (!reached) {
                return pledges ? top : 0;
            }
            return pledges ? person.worth - person.part : person.worth;
        }

        private int pledged(int set) {
            int all = 0;
            for (int p = 0; p < village.size; p++) {
                if (isIn(set, p)) {
                    all += village.people[p].part;
                }
            }
            return all;
        }
    }
}
