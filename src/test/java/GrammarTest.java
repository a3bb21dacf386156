import java.io.IOException;
import java.nio.file.Files;
import java.nio.file.Path;
import java.util.ArrayDeque;
import java.util.ArrayList;
import java.util.Deque;
import java.util.HashMap;
import java.util.LinkedHashSet;
import java.util.List;
import java.util.Map;
import java.util.Set;
import java.util.regex.Matcher;
import java.util.regex.Pattern;

/**
 * The grammar as the document itself writes it, taken from ../shared/DOC.md: every run of words up to a length
 * that it lets is told as a text, and every word that it does not let is told behind each of them.
 */
public final class GrammarTest {
    private static final int MOST_WORDS = 7;
    /** A number within the bounds of N, P, M, S and D alike. */
    private static final String NUMBER = "1";

    private final Map<String, Part> rules = new HashMap<>();
    private final Set<String> words = new LinkedHashSet<>();
    private final Deque<String> signs = new ArrayDeque<>();
    private int texts = 0;

    /** A part of the grammar: a word, a name, parts in a row, one of several, as often as one likes, or none. */
    private record Part(char kind, String name, List<Part> parts) {
    }

    /** What is still to come: the first part, and what is behind it. */
    private record Rest(Part first, Rest behind) {
    }

    public static void main(String[] args) throws IOException {
        GrammarTest test = new GrammarTest();
        test.readGrammar(Files.readString(Path.of("../shared/DOC.md")));
        Check.due("words of the grammar", test.words.size(), 20);
        test.walk(new ArrayList<>(), List.of(new Rest(test.rules.get("term"), null)));
        Check.due("enough texts", test.texts > 10000 ? 1 : 0, 1);
        Check.end("GrammarTest");
    }

    // ---- reading the grammar

    private void readGrammar(String document) {
        Matcher m = Pattern.compile("term = .*?'day' D\\.").matcher(document);
        Check.due("a grammar in the document", m.find() ? 1 : 0, 1);
        Matcher sign = Pattern.compile("'[^']*'|[A-Za-z]+|[={}\\[\\]|;.]").matcher(m.group());
        while (sign.find()) {
            signs.add(sign.group());
        }
        words.add(NUMBER);
        while (!signs.isEmpty()) {
            String name = signs.remove();
            signs.remove();
            rules.put(name, choice());
            signs.remove();
        }
    }

    private Part choice() {
        List<Part> ways = new ArrayList<>(List.of(sequence()));
        while (signs.peek().equals("|")) {
            signs.remove();
            ways.add(sequence());
        }
        return new Part('|', "", ways);
    }

    private Part sequence() {
        List<Part> row = new ArrayList<>();
        while (!"|;.}]".contains(signs.peek())) {
            row.add(single(signs.remove()));
        }
        return new Part(',', "", row);
    }

    private Part single(String sign) {
        if (sign.equals("{") || sign.equals("[")) {
            Part inside = choice();
            signs.remove();
            return new Part(sign.charAt(0), "", List.of(inside));
        }
        if (sign.startsWith("'")) {
            String word = sign.substring(1, sign.length() - 1);
            words.add(word);
            return new Part('w', word, List.of());
        }
        boolean number = sign.length() == 1;
        return new Part(number ? 'w' : 'n', number ? NUMBER : sign, List.of());
    }

    // ---- what can stand next

    /** All ways in which a rest can go on with a word; an end that may be is told by null. */
    private void open(Rest rest, List<Rest> all) {
        if (rest == null) {
            all.add(null);
            return;
        }
        Part first = rest.first;
        switch (first.kind) {
            case 'w' -> all.add(rest);
            case 'n' -> open(new Rest(rules.get(first.name), rest.behind), all);
            case '|' -> first.parts.forEach(way -> open(new Rest(way, rest.behind), all));
            case ',' -> {
                Rest now = rest.behind;
                for (int k = first.parts.size() - 1; k >= 0; k--) {
                    now = new Rest(first.parts.get(k), now);
                }
                open(now, all);
            }
            default -> {
                open(rest.behind, all);
                open(new Rest(first.parts.get(0), first.kind == '{' ? rest : rest.behind), all);
            }
        }
    }

    private void walk(List<String> told, List<Rest> rests) {
        List<Rest> all = new ArrayList<>();
        rests.forEach(rest -> open(rest, all));
        judge(told, all.contains(null));
        for (String word : words) {
            List<Rest> next = new ArrayList<>();
            for (Rest rest : all) {
                if (rest != null && rest.first.name.equals(word)) {
                    next.add(rest.behind);
                }
            }
            List<String> longer = new ArrayList<>(told);
            longer.add(word);
            if (next.isEmpty()) {
                cannotStand(longer);
            } else if (told.size() < MOST_WORDS) {
                walk(longer, next);
            }
        }
    }

    // ---- held against the class

    private void judge(List<String> told, boolean whole) {
        long count = told.stream().filter("else"::equals).count() + 1;
        for (String between : new String[] {" ", ""}) {
            String text = text(told, between);
            answer(text, whole ? (int) count : -11, whole ? IfYouWill.NONE : text.length());
        }
    }

    private void cannotStand(List<String> told) {
        for (String between : new String[] {" ", ""}) {
            String text = text(told, between);
            answer(text, -11, text.length() - told.get(told.size() - 1).length());
        }
    }

    private void answer(String text, int term, int fault) {
        texts++;
        IfYouWill x = new IfYouWill();
        Check.due("term of [" + text + "]", Check.tell(x, 0, text), term);
        Check.due("fault of [" + text + "]", x.fault(), fault);
    }

    /** Words with a blank between them, or with one only where it is needed. */
    private static String text(List<String> told, String between) {
        StringBuilder all = new StringBuilder();
        for (String word : told) {
            int end = all.length() - 1;
            boolean alike = end >= 0 && kind(all.charAt(end)) == kind(word.charAt(0)) && kind(word.charAt(0)) != 's';
            all.append(end < 0 ? "" : alike ? " " : between).append(word);
        }
        return all.toString();
    }

    private static char kind(char c) {
        return Character.isLetter(c) ? 'w' : Character.isDigit(c) ? 'n' : 's';
    }
}
