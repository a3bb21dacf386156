/** What the tests share: objects with terms, and answers held against those that are due. */
final class Check {
    private static int wrong = 0;
    private static int asked = 0;

    private Check() {
    }

    static void due(String what, int got, int want) {
        asked++;
        if (got != want) {
            wrong++;
            System.out.println(what + " answered " + got + ", due is " + want);
        }
    }

    /** Ends the test: with exit code 1, if an answer was not the one that is due. */
    static void end(String name) {
        System.out.println(name + ": " + asked + " answers, " + wrong + " wrong");
        if (wrong != 0 || asked == 0) {
            System.exit(1);
        }
    }

    /** Feeds a text, eight bytes at once as long as it has eight; what the last feed answered. */
    static int feed(IfYouWill x, String text) {
        int answer = x.count(1);
        for (int at = 0; at < text.length(); at += 8) {
            String piece = text.substring(at, Math.min(at + 8, text.length()));
            answer = x.feed(piece.length(), packed(piece));
        }
        return answer;
    }

    static long packed(String piece) {
        long bytes = 0;
        for (char c : piece.toCharArray()) {
            bytes = bytes << 8 | c & 255;
        }
        return bytes;
    }

    static int tell(IfYouWill x, int p, String text) {
        feed(x, text);
        return x.term(p);
    }

    /** An object with as many persons as terms. */
    static IfYouWill with(String... terms) {
        IfYouWill x = new IfYouWill();
        x.persons(terms.length);
        for (int p = 0; p < terms.length; p++) {
            if (tell(x, p, terms[p]) < 1) {
                due("the term " + terms[p], 0, 1);
            }
        }
        return x;
    }

    /** An object with a part and a worth for each person. */
    static IfYouWill dyke(int... partsAndWorths) {
        IfYouWill x = new IfYouWill();
        x.persons(partsAndWorths.length / 2);
        for (int p = 0; p < partsAndWorths.length / 2; p++) {
            x.offer(p, 0, partsAndWorths[2 * p]);
            x.offer(p, 1, partsAndWorths[2 * p + 1]);
        }
        return x;
    }

    /** A row of deeds, that of person 0 first. */
    static int row(int... deeds) {
        int row = 0;
        for (int p = deeds.length - 1; p >= 0; p--) {
            row = row * 4 + deeds[p];
        }
        return row;
    }
}
