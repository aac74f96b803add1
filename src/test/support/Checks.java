import java.util.function.Supplier;
import java.util.function.ToLongFunction;

/** What the sentence tests share: counting answers that are not as due, and looking at a whole object. */
final class Checks {
    static final int UNKNOWN = -1, BAD = -2, LATE = -3, FULL = -4, NONE = -9;
    /** Numbers far outside every range of the document. */
    static final int[] FAR = {-1, -2, -9, 100, 1000, Integer.MIN_VALUE, Integer.MIN_VALUE + 1, Integer.MAX_VALUE};

    private static int wrong = 0;
    private static int checks = 0;
    private static int checksOfSentence = 0;
    private static String sentence = "";

    private Checks() {
    }

    /** The sentence that the checks after this call are about, in the document's words. */
    static void sentence(String section, String words) {
        endSentence();
        sentence = section + ": " + words;
        checksOfSentence = 0;
        Document.quote(section, words);
    }

    private static void endSentence() {
        if (!sentence.isEmpty() && checksOfSentence == 0) {
            fail("has no check");
        }
    }

    static void fail(String told) {
        wrong++;
        System.out.println("[" + sentence + "] " + told);
    }

    static void due(String call, long got, long want) {
        checks++;
        checksOfSentence++;
        if (got != want) {
            fail(call + " answered " + got + ", due is " + want);
        }
    }

    static void due(String told, String got, String want) {
        checks++;
        checksOfSentence++;
        if (!got.equals(want)) {
            fail(told + " is " + got + ", due is " + want);
        }
    }

    /** Prints what was found, and answers whether all was as due. */
    static boolean end() {
        endSentence();
        System.out.println(checks + " answers, " + wrong + " of them not as due");
        return wrong == 0;
    }

    static PathStream put(PathStream x, String text) {
        x.wipe();
        for (char letter : text.toCharArray()) {
            x.write(letter);
        }
        return x;
    }

    /** A new object that has begun with a task. */
    static PathStream on(String task) {
        PathStream x = put(new PathStream(), task);
        if (x.task() < 0) {
            fail(task + " is no task, fault() is " + x.fault());
        }
        return x;
    }

    /** Checks fault() and task() of a text: want is the error position, or NONE. */
    static void faultDue(String text, int want) {
        PathStream x = put(new PathStream(), text);
        due("fault() of " + text, x.fault(), want);
        due("task() of " + text, Math.min(0, x.task()), want == NONE ? 0 : LATE);
    }

    /** The emitted answers of a path as "element@time element@time ..". */
    static String outs(PathStream x, int path) {
        StringBuilder all = new StringBuilder();
        int count = x.path(path, 2);
        for (int i = 0; i < count; i++) {
            all.append(i == 0 ? "" : " ").append(x.out(path, i, false)).append('@').append(x.out(path, i, true));
        }
        return all.toString();
    }

    /** What is() answers for each element, such as "012". */
    static String isOfAll(PathStream x, int path) {
        StringBuilder all = new StringBuilder();
        int count = x.about(1);
        for (int e = 0; e < count; e++) {
            all.append(x.is(path, e));
        }
        return all.toString();
    }

    static String aboutAll(PathStream x) {
        StringBuilder all = new StringBuilder();
        for (int what = 0; what <= 8; what++) {
            all.append(x.about(what)).append(' ');
        }
        return all.toString().trim();
    }

    /** Elements, clock and paths, with their emitted answers and peaks: what undo() and again() bring back. */
    static String world(PathStream x) {
        StringBuilder all = new StringBuilder("clock ").append(x.about(4)).append(" current ").append(x.about(2));
        int elements = x.about(1);
        for (int e = 0; e < elements; e++) {
            all.append("\n element");
            for (int what = 0; what <= 5; what++) {
                all.append(' ').append(x.element(e, what));
            }
        }
        int paths = x.about(0);
        for (int p = 0; p < paths; p++) {
            all.append("\n path");
            int steps = x.path(p, 0);
            for (int step = 0; step < steps; step++) {
                all.append(' ').append(x.step(p, step));
            }
            all.append(", peak ").append(x.path(p, 4)).append(", out ").append(outs(x, p));
        }
        return all.toString();
    }

    /** What an object holds beside its world, as far as it can be asked without losing it. */
    static String rest(PathStream x) {
        long random = x.seed(0);
        x.seed(random);
        return aboutAll(x) + " fault " + x.fault() + " which " + x.which() + " random " + random;
    }

    /**
     * Whether two ways of making an object give the same one, also behind undo() and again(): each look takes
     * an object of its own, so that none is used for more than 512 calls.
     */
    static void sameDue(String told, Supplier<PathStream> got, Supplier<PathStream> want) {
        due(told + ": the rest", rest(got.get()), rest(want.get()));
        for (int undone = 0; undone <= 15; undone++) {
            due(told + ": after undo() " + undone + " times", undone(got.get(), undone), undone(want.get(), undone));
        }
        for (int slot = 0; slot <= 1; slot++) {
            due(told + ": slot " + slot, restored(got.get(), slot), restored(want.get(), slot));
        }
    }

    private static String undone(PathStream x, int times) {
        long last = 0;
        for (int i = 0; i < times; i++) {
            last = x.undo();
        }
        return last + " " + world(x);
    }

    private static String restored(PathStream x, int slot) {
        return x.again(slot) + " " + world(x);
    }

    /** Checks that a call answers an error, and that the object is then as if it had not been made. */
    static void refusedDue(String call, Supplier<PathStream> made, ToLongFunction<PathStream> act, int error) {
        due(call, act.applyAsLong(made.get()), error);
        sameDue(call, () -> {
            PathStream x = made.get();
            act.applyAsLong(x);
            return x;
        }, made);
    }
}
