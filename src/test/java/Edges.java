import java.util.ArrayList;
import java.util.List;
import java.util.function.Consumer;
import java.util.function.Supplier;
import java.util.function.ToIntFunction;

/** What the tests of the edges share: numbers out of bounds, texts with faults, and that nothing has changed. */
final class Edges {
    private Edges() {
    }

    /** Numbers that are out of bounds: just and far, on either side. */
    static int[] beyond(int least, int most) {
        return new int[] {least - 1, most + 1, Integer.MIN_VALUE, Integer.MAX_VALUE};
    }

    /** Four persons who differ in all that can be told of them, a fault at 8, and a text that is no term yet. */
    static IfYouWill lived() {
        IfYouWill x = Check.with("1 if not who 1 gives 2", "as 0 if day 6 else 2", "3 if sum 4 else least if day 9",
                "most if any 2 of 0 to 2 give 2 else 1 if day 3");
        for (int p = 0; p < 4; p++) {
            x.offer(p, 0, 10 * p + 11);
            x.offer(p, 1, 10 * p + 15);
        }
        Check.tell(x, 0, "2 if sum");
        Check.feed(x, "2 if who 3 gives 2");
        return x;
    }

    /** A call on one that has lived is refused, and changes nothing. */
    static void refused(String what, int due, ToIntFunction<IfYouWill> call) {
        refused(what, due, Edges::lived, call);
    }

    static void refused(String what, int due, Supplier<IfYouWill> made, ToIntFunction<IfYouWill> call) {
        IfYouWill x = made.get();
        Check.due(what, call.applyAsInt(x), due);
        same("after the refused " + what + ": ", x, made.get());
    }

    /** Calls that only ask leave one that has lived as it was. */
    static void changeNothing(String what, Consumer<IfYouWill> calls) {
        IfYouWill x = lived();
        calls.accept(x);
        same("after " + what + ": ", x, lived());
    }

    private static void same(String what, IfYouWill x, IfYouWill twin) {
        List<Integer> is = seen(x);
        List<Integer> due = seen(twin);
        Check.due(what + "as many answers", is.size(), due.size());
        for (int k = 0; k < Math.min(is.size(), due.size()); k++) {
            Check.due(what + "answer " + k, is.get(k), due.get(k));
        }
    }

    /** All that can be asked of four persons, in less than 512 calls; the money and the text last: it takes them. */
    private static List<Integer> seen(IfYouWill x) {
        List<Integer> all = new ArrayList<>();
        all.add(x.fault());
        for (int what = 0; what <= 3; what++) {
            all.add(x.count(what));
        }
        for (int p = 0; p < 4; p++) {
            for (int row = 0; row < 256; row += 11) {
                all.add(x.lets(p, row, 1));
                all.add(x.lets(p, row, 5));
                all.add(x.lets(p, row, 9));
            }
        }
        all.add(x.settled(IfYouWill.NONE));
        all.add(x.byDay(9));
        for (int what = 0; what <= 2; what++) {
            all.add(x.climb(255, 0, what));
        }
        for (int p = 0; p < 4; p++) {
            all.add(x.offer(p, 0, 0));
            all.add(x.offer(p, 1, 0));
        }
        all.add(x.term(0));
        all.add(x.fault());
        for (int row = 0; row < 256; row += 11) {
            all.add(x.lets(0, row, 9));
        }
        return all;
    }

    // ---- texts

    /** A text has a fault: it is told, the term is as it was, and THE TEXT is empty. */
    static void fault(String text, int number, int place) {
        IfYouWill x = Check.with("2", "0");
        Check.due("term of [" + text + "]", Check.tell(x, 0, text), -10 - number);
        Check.due("fault of [" + text + "]", x.fault(), place);
        Check.due("kept by [" + text + "]", x.lets(0, 0, 9), 2);
        Check.due("emptied by [" + text + "]", x.count(1), 0);
    }

    /** A text has no fault, and so many rules. */
    static void fine(String text, int rules) {
        IfYouWill x = new IfYouWill();
        Check.due("term of [" + text + "]", Check.tell(x, 0, text), rules);
        Check.due("fault of [" + text + "]", x.fault(), IfYouWill.NONE);
    }

    static int rows(int persons) {
        return 1 << 2 * persons;
    }
}
