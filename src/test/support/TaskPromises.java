import java.util.function.ToLongFunction;

/** The sentences of the promises 1 to 12: a new object, the text, and what can be looked up. */
final class TaskPromises {
    private static final int UNKNOWN = Checks.UNKNOWN, BAD = Checks.BAD, LATE = Checks.LATE, FULL = Checks.FULL;
    private static final int NONE = Checks.NONE;

    private TaskPromises() {
    }

    static void run() {
        newObject();
        write();
        wipe();
        fault();
        task();
        about();
        aboutPrefixes();
        element();
        path();
        pathWhenClosed();
        step();
        is();
        ends();
        out();
    }

    private static void newObject() {
        Checks.sentence("Promise 1", "Creates an evaluator without elements and paths, with the clock 0, an empty text"
            + " buffer, no recorded actions, no observations, empty slots and the random number 0.");
        PathStream x = new PathStream();
        Checks.due("about", Checks.aboutAll(x), "0 0 -9 0 0 0 0 0 0");
        Checks.due("element(0, 0)", x.element(0, 0), UNKNOWN);
        Checks.due("path(0, 0)", x.path(0, 0), UNKNOWN);
        Checks.due("fault()", x.fault(), 0);
        Checks.due("undo()", x.undo(), LATE);
        Checks.due("unsee()", x.unsee(), 0);
        Checks.due("again(0)", x.again(0), LATE);
        Checks.due("again(1)", x.again(1), LATE);
        Checks.due("seed(1)", x.seed(1), 0);
        Checks.due("which()", x.which(), 63);
        Checks.due("wipe()", x.wipe(), 0);
        States.deep();
        Checks.due("beside another object", Checks.aboutAll(new PathStream()), "0 0 -9 0 0 0 0 0 0");
    }

    private static void write() {
        Checks.sentence("Promise 2", "Appends a character to the text buffer.");
        PathStream x = new PathStream();
        x.write('D');
        x.write('(');
        Checks.due("fault() of D(", x.fault(), 2);
        x.write('a');
        Checks.due("fault() of D(a", x.fault(), NONE);
        Checks.sentence("Promise 2", "its code, 0 to 255");
        for (int code = 0; code <= 255; code++) {
            PathStream y = new PathStream();
            Checks.due("write(" + code + ")", y.write(code), 1);
            Checks.due("fault() of the character " + code, y.fault(), code == 'D' ? NONE : 0);
        }
        Checks.due("write(-1)", x.write(-1), BAD);
        Checks.due("write(256)", x.write(256), BAD);
        Checks.due("write(256 + 'D')", x.write(256 + 'D'), BAD);
        Checks.due("write(65536 + 'D')", x.write(65536 + 'D'), BAD);
        Checks.due("write(Integer.MIN_VALUE)", x.write(Integer.MIN_VALUE), BAD);
        Checks.due("write(Integer.MAX_VALUE)", x.write(Integer.MAX_VALUE), BAD);
        Checks.sentence("Promise 2", "Returns the length of the text; BAD if letter is out of range; FULL if it has 99"
            + " characters.");
        PathStream z = new PathStream();
        for (int length = 1; length <= 99; length++) {
            Checks.due("write(-1) before " + length, z.write(-1), BAD);
            Checks.due("write(0) to " + length, z.write(0), length);
        }
        Checks.due("write(0) as the 100th", z.write(0), FULL);
        Checks.due("write(255) as the 100th", z.write(255), FULL);
        Checks.due("write(-1) as the 100th", z.write(-1), BAD);
        Checks.due("write(256) as the 100th", z.write(256), BAD);
    }

    private static void wipe() {
        Checks.sentence("Promise 3", "Empties the text buffer.");
        PathStream x = Checks.put(new PathStream(), "D(a)");
        x.wipe();
        Checks.due("about(8)", x.about(8), 0);
        Checks.due("fault()", x.fault(), 0);
        x.write('D');
        Checks.due("fault() of D", x.fault(), NONE);
        Checks.due("task() of D", x.task(), 0);
        Checks.due("about(1)", x.about(1), 0);
        Checks.sentence("Promise 3", "Returns the length that the text had.");
        Checks.due("wipe() of one", x.wipe(), 1);
        Checks.due("wipe() of none", x.wipe(), 0);
        Checks.due("wipe() of 99", States.deep().wipe(), 99);
        Checks.sameDue("wipe() and writing again", () -> {
            PathStream y = States.ordinary();
            y.wipe();
            return Checks.put(y, "Dq/a(");
        }, States::ordinary);
    }

    private static void fault() {
        Checks.sentence("Promise 4", "Returns the error position of the text in the text buffer.");
        Checks.due("fault() of Dq/a(", States.ordinary().fault(), 4);
        Checks.due("fault() with index 98", States.deep().fault(), 98);
        Checks.due("fault() of nothing", new PathStream().fault(), 0);
        Checks.due("fault() doesn't look at the elements", Checks.put(Checks.on("D(a)"), "D(a").fault(), NONE);
        Checks.due("fault() doesn't look at the paths",
            Checks.put(Checks.on("D" + "q/a.".repeat(5)), "Dq/a.").fault(), NONE);
        changesNothing("fault()", PathStream::fault);
        Checks.sentence("Promise 4", "Returns the position; NONE if the text is a task.");
        Checks.faultDue("D", NONE);
        Checks.faultDue("D(a" + "9".repeat(96), NONE);
        Checks.faultDue("Dq", 2);
    }

    /** For calls that only tell something. */
    private static void changesNothing(String call, ToLongFunction<PathStream> act) {
        Checks.sameDue(call + " changes nothing", () -> {
            PathStream x = States.ordinary();
            act.applyAsLong(x);
            return x;
        }, States::ordinary);
        Checks.sameDue(call + " changes nothing", () -> {
            PathStream x = States.deep();
            act.applyAsLong(x);
            return x;
        }, States::deep);
    }

    private static PathStream begun(PathStream x, String task) {
        Checks.put(x, task).task();
        return x;
    }

    private static void task() {
        Checks.sentence("Promise 5", "Begins anew with the task in the text buffer: there are no elements, and the clock"
            + " is 0; all of its paths are added, then its events happen one by one.");
        String[] tasks = {"D", "D(a", "Dq/a.", "Dq!*[=1].q!b/c[=2].(b2(c2(b1)12)2)", "D" + "q!*.".repeat(5)};
        for (String task : tasks) {
            String want = Checks.world(Checks.on(task));
            Checks.due(task + " after much", Checks.world(begun(States.ordinary(), task)), want);
            Checks.due(task + " after its end", Checks.world(begun(States.ended(), task)), want);
        }
        PathStream x = begun(States.ordinary(), "Dq!*[=1].q!b/c[=2].(b2(c2(b1)12)2)");
        Checks.due("clock", x.about(4), 12);
        Checks.due("path 0", Checks.outs(x, 0), "1@12 2@12");
        Checks.due("path 1", Checks.outs(x, 1), "1@4");
        Checks.due("peak of path 0", x.path(0, 4), 3);
        Checks.due("peak of path 1", x.path(1, 4), 1);
        Checks.due("about of D", Checks.aboutAll(begun(States.ended(), "D")), "0 0 -9 0 0 0 0 0 1");
        PathStream noDigits = begun(Checks.on("D(a5(b6"), "Dq!*[=5].(a(b");
        Checks.due("element(0, 4) without what was before", noDigits.element(0, 4), 0);
        Checks.due("element(1, 4) without what was before", noDigits.element(1, 4), 0);
        Checks.due("path 0 without what was before", Checks.isOfAll(noDigits, 0), "11");
        PathStream noEvents = begun(Checks.on("Dq/a[=1].(a15(b"), "Dq!a[=1].");
        for (int what = 1; what <= 6; what++) {
            Checks.due("path(0, " + what + ") without events", noEvents.path(0, what), 0);
        }
        noEvents.open(0);
        Checks.due("element(0, 4) without what was before", noEvents.element(0, 4), 0);
        Checks.due("element(0, 5) without what was before", noEvents.element(0, 5), 0);
        PathStream twice = Checks.on("Dq!a.(a");
        Checks.due("task() twice", twice.task(), 1);
        Checks.due("about(1)", twice.about(1), 1);
        taskAndTheRest();
    }

    private static void taskAndTheRest() {
        Checks.sentence("Promise 5", "No actions are recorded then, and the slots are empty.");
        PathStream x = States.deep();
        Checks.due("about(6) before", x.about(6), 14);
        begun(x, "D(a");
        Checks.due("about(6)", x.about(6), 0);
        Checks.due("undo()", x.undo(), LATE);
        Checks.due("again(0)", x.again(0), LATE);
        Checks.due("again(1)", x.again(1), LATE);
        x.tell(1);
        Checks.due("undo() of what came then", x.undo(), 0);
        Checks.due("undo()", x.undo(), LATE);
        Checks.due("about(4)", x.about(4), 1);
        Checks.sentence("Promise 5", "The text, the observations and the random number stay.");
        PathStream y = begun(States.ordinary(), "Dq!*.(a(b");
        Checks.due("about(8)", y.about(8), 9);
        Checks.due("fault()", y.fault(), NONE);
        Checks.due("about(7)", y.about(7), 1);
        Checks.due("which()", y.which(), 3);
        Checks.due("seed(0)", y.seed(0), 0x123456789ABCDEFL);
        Checks.due("task() again", y.task(), 1);
        Checks.sentence("Promise 5", "Returns the number of paths; LATE if the text is no task (then nothing changes).");
        for (int paths = 0; paths <= 5; paths++) {
            Checks.due("task() of " + paths, Checks.put(new PathStream(), "D" + "q/a.".repeat(paths)).task(), paths);
        }
        for (String text : new String[] {"", "Dq!a.(a)x", "Dq!a.(a(", "Dq", "D" + "q/a.".repeat(6), "D)"}) {
            Checks.refusedDue("task() of " + text, () -> Checks.put(States.ordinary(), text), PathStream::task, LATE);
        }
    }

    private static void about() {
        PathStream none = new PathStream();
        PathStream deep = States.deep();
        PathStream ended = States.ended();
        aboutSays("Returns a number.", 0, new PathStream[] {none}, 0);
        aboutSays("0 for the number of paths", 0, new PathStream[] {none, deep, ended}, 0, 5, 0);
        aboutSays("1 for the number of elements", 1, new PathStream[] {none, deep, ended}, 0, 20, 2);
        aboutSays("2 for the current element (NONE if there is none)", 2, new PathStream[] {none, deep, ended,
            States.wide(), Checks.on("D(a(b)")}, NONE, 19, NONE, 19, 0);
        aboutSays("3 for its depth (0 if there is none)", 3, new PathStream[] {none, deep, ended, States.wide(),
            Checks.on("D(a(b)")}, 0, 8, 0, 2, 1);
        aboutSays("4 for the clock", 4, new PathStream[] {none, deep, ended}, 0, 46, 5);
        aboutSays("6 for the recorded actions", 6, new PathStream[] {none, deep, ended}, 0, 14, 0);
        aboutSays("7 for the observations", 7, new PathStream[] {none, deep, ended}, 0, 6, 0);
        aboutSays("8 for the length of the text", 8, new PathStream[] {none, deep, ended}, 0, 99, 2);
        Checks.sentence("Promise 6", "Returns that number; BAD if what is not 0 to 8.");
        Checks.due("about(8)", ended.about(8), 2);
        Checks.due("about(9)", ended.about(9), BAD);
        for (int far : Checks.FAR) {
            Checks.due("about(" + far + ")", ended.about(far), BAD);
        }
    }

    private static void aboutSays(String words, int what, PathStream[] of, int... want) {
        Checks.sentence("Promise 6", words);
        for (int i = 0; i < want.length; i++) {
            Checks.due("about(" + what + ") of object " + i, of[i].about(what), want[i]);
        }
    }

    private static void aboutPrefixes() {
        Checks.sentence("Promise 6", "5 for the number of different prefixes of all paths (a prefix is the first 1, 2, .."
            + " steps of a path, also all of them; two are equal if all of their steps are)");
        String[] paths = {"", "q/a.", "q/a.q/a.", "q/a.q!a.", "q/a.q/b.", "q/a.q/a[a].", "q/a[a].q/a[=0].", "q/a/b.",
            "q/a/b.q/a.", "q/a.q/a/b.", "q/a/b.q/c/b.", "q/a/a/a/a.", "q/a/a/a/a.q/a/a/a/b.", "q/a/b/c/d.q/b/b/c/d.",
            "q/a/b/c/d.".repeat(5), "q/a/b/c/d.q/b/b/c/d.q/c/b/c/d.q/d/b/c/d.q/e/b/c/d.",
            "q/a/b/c/d.q/a/b/c/d.q/a/b/c/e.q/a/b/d.q/a/c."};
        int[] want = {0, 1, 1, 2, 2, 2, 2, 2, 2, 2, 4, 4, 5, 8, 4, 20, 7};
        for (int i = 0; i < paths.length; i++) {
            Checks.due("about(5) of " + paths[i], Checks.on("D" + paths[i]).about(5), want[i]);
        }
        Checks.due("about(5) of q/b.q/b/a.", Checks.on("Dq/b.q/b/a.").about(5), 2);
        PathStream shorter = Checks.on("Dq/a/b.");
        shorter.drop();
        shorter.ask(1, 0);
        shorter.ask(2, 100);
        Checks.due("about(5) without the steps that were dropped", shorter.about(5), 2);
        PathStream x = Checks.on("Dq/a/b.q/a/c.");
        Checks.due("about(5)", x.about(5), 3);
        x.drop();
        Checks.due("about(5) after drop()", x.about(5), 2);
        x.undo();
        Checks.due("about(5) after undo()", x.about(5), 3);
    }

    private static void element() {
        PathStream x = Checks.on("D(c(a)0(e39(a)(b)(a");
        int[][] want = {
            {2, NONE, 1, 1, 1, 1 | 1 << 4}, {0, 0, 2, 0, 0, 0}, {4, 0, 2, 1, 1 << 3 | 1 << 9, 1 | 1 << 1},
            {0, 2, 3, 0, 0, 0}, {1, 2, 3, 0, 0, 0}, {0, 2, 3, 1, 0, 0}};
        String[] words = {"0 for its name", "1 for its parent (NONE for element 0)", "2 for its depth",
            "3 for 1 if it is open, otherwise 0", "4 for the set of digits that it holds",
            "5 for the set of the names of its children"};
        for (int what = 0; what < words.length; what++) {
            Checks.sentence("Promise 7", words[what]);
            for (int e = 0; e < want.length; e++) {
                Checks.due("element(" + e + ", " + what + ")", x.element(e, what), want[e][what]);
            }
        }
        Checks.sentence("Promise 7", "Returns a property of an element.");
        Checks.due("element(19, 2) of 20", States.deep().element(19, 2), 8);
        Checks.sentence("Promise 7", "number of the element");
        Checks.due("element(5, 0)", x.element(5, 0), 0);
        Checks.due("element(6, 0)", x.element(6, 0), UNKNOWN);
        Checks.due("element(20, 0) of 20", States.deep().element(20, 0), UNKNOWN);
        Checks.sentence("Promise 7", "Returns the property; UNKNOWN if there is no such element; BAD if what is not"
            + " 0 to 5.");
        Checks.due("element(0, 6)", x.element(0, 6), BAD);
        Checks.due("element(0, 5)", x.element(0, 5), 1 | 1 << 4);
        Checks.due("element(6, 6)", x.element(6, 6), UNKNOWN);
        Checks.due("element(0, 0) of none", new PathStream().element(0, 0), UNKNOWN);
        for (int far : Checks.FAR) {
            Checks.due("element(" + far + ", 0)", x.element(far, 0), UNKNOWN);
            Checks.due("element(" + far + ", 9)", x.element(far, 9), UNKNOWN);
            Checks.due("element(0, " + far + ")", x.element(0, far), BAD);
        }
    }

    private static void path() {
        String[] words = {"0 for the number of its steps", "1 for its answers", "2 for the emitted answers",
            "3 for the size of its buffer", "4 for its peak", "5 for the elements that are in doubt"};
        PathStream x = Checks.on("Dq!b[=1].q/a/b!c/d.q!*.(a(b1)(b(b1)(b(b))");
        int[][] want = {{1, 2, 1, 2, 4, 1}, {4, 0, 0, 0, 0, 0}, {1, 6, 6, 0, 0, 0}};
        for (int what = 0; what < words.length; what++) {
            Checks.sentence("Promise 8", words[what]);
            for (int p = 0; p < want.length; p++) {
                Checks.due("path(" + p + ", " + what + ")", x.path(p, what), want[p][what]);
            }
        }
        Checks.sentence("Promise 8", "Returns a number about a path.");
        Checks.due("path(4, 0) of 5", States.deep().path(4, 0), 4);
        Checks.sentence("Promise 8", "number of the path");
        Checks.due("path(2, 0)", x.path(2, 0), 1);
        Checks.due("path(3, 0)", x.path(3, 0), UNKNOWN);
        Checks.due("path(5, 0) of 5", States.deep().path(5, 0), UNKNOWN);
        Checks.sentence("Promise 8", "Returns that number; UNKNOWN if there is no such path; BAD if what is not 0 to 6.");
        Checks.due("path(0, 6)", x.path(0, 6), 2);
        Checks.due("path(0, 7)", x.path(0, 7), BAD);
        Checks.due("path(3, 7)", x.path(3, 7), UNKNOWN);
        Checks.due("path(0, 0) of none", new PathStream().path(0, 0), UNKNOWN);
        for (int far : Checks.FAR) {
            Checks.due("path(" + far + ", 0)", x.path(far, 0), UNKNOWN);
            Checks.due("path(" + far + ", 9)", x.path(far, 9), UNKNOWN);
            Checks.due("path(0, " + far + ")", x.path(0, far), BAD);
        }
    }

    private static void pathWhenClosed() {
        Checks.sentence("Promise 8", "6 for how many answers would have been emitted if all open elements were closed"
            + " now, one after the other");
        String[] tasks = {"D", "D(b", "D(b1", "D(b1)", "D(b(b1", "D(b(b1)1", "D(b(b(b", "D(b(b1)(b1)(b1(b", "D(b(b1)(b))"};
        int[] want = {0, 0, 1, 1, 1, 2, 0, 3, 1};
        for (int i = 0; i < tasks.length; i++) {
            PathStream x = Checks.on("Dq!b[=1]." + tasks[i].substring(1));
            Checks.due("path(0, 6) of " + tasks[i], x.path(0, 6), want[i]);
            Checks.due("really closed", closed(x).path(0, 2), want[i]);
        }
        PathStream deep = States.deep();
        for (int p = 0; p < 5; p++) {
            Checks.due("path(" + p + ", 6)", deep.path(p, 6), closed(States.deep()).path(p, 2));
        }
        changesNothing("path(0, 6)", x -> x.path(0, 6));
    }

    private static PathStream closed(PathStream x) {
        for (int i = 0; i < 8; i++) {
            x.close();
        }
        return x;
    }

    private static void step() {
        Checks.sentence("Promise 9", "Returns a step of a path.");
        PathStream x = Checks.on("Dq/a!*[e]/e[=9]!c[=0].q!b[a].");
        Checks.due("step(1, 0)", x.step(1, 0), 1101);
        Checks.sentence("Promise 9", "number of the path");
        Checks.due("step(2, 0)", x.step(2, 0), UNKNOWN);
        Checks.due("step(4, 0) of 5", States.deep().step(4, 0), 1500);
        Checks.due("step(5, 0) of 5", States.deep().step(5, 0), UNKNOWN);
        Checks.sentence("Promise 9", "index of the step, from 0");
        Checks.due("step(0, 0)", x.step(0, 0), 0);
        Checks.due("step(0, 3)", x.step(0, 3), 1206);
        Checks.sentence("Promise 9", "Returns 1000 * axis + 100 * test + condition; UNKNOWN if there is no such path or"
            + " step.");
        Checks.due("step(0, 1)", x.step(0, 1), 1505);
        Checks.due("step(0, 2)", x.step(0, 2), 415);
        Checks.due("step(0, 4)", x.step(0, 4), UNKNOWN);
        Checks.due("step(1, 1)", x.step(1, 1), UNKNOWN);
        Checks.due("step(0, 0) of none", new PathStream().step(0, 0), UNKNOWN);
        for (int far : Checks.FAR) {
            Checks.due("step(" + far + ", 0)", x.step(far, 0), UNKNOWN);
            Checks.due("step(0, " + far + ")", x.step(0, far), UNKNOWN);
        }
        PathStream y = Checks.on("Dq/a/a/a/a.");
        y.drop();
        y.ask(1, 0);
        Checks.due("step(0, 1) of a shorter path", y.step(0, 1), UNKNOWN);
    }

    private static void is() {
        Checks.sentence("Promise 10", "Tells whether an element is an answer of a path.");
        PathStream x = Checks.on("Dq!b[=1].q!a.(a(b1)(b)(b");
        Checks.due("path 0", Checks.isOfAll(x, 0), "0201");
        Checks.due("path 1", Checks.isOfAll(x, 1), "2000");
        Checks.sentence("Promise 10", "number of the path");
        Checks.due("is(2, 0)", x.is(2, 0), UNKNOWN);
        Checks.sentence("Promise 10", "number of the element");
        Checks.due("is(0, 4)", x.is(0, 4), UNKNOWN);
        Checks.due("is(1, 19) of 20", States.deep().is(1, 19), 2);
        Checks.due("is(1, 20) of 20", States.deep().is(1, 20), UNKNOWN);
        Checks.sentence("Promise 10", "Returns 2 if it is an answer, 1 if it is in doubt, otherwise 0; UNKNOWN if there is"
            + " no such path or element.");
        Checks.due("is(0, 1)", x.is(0, 1), 2);
        Checks.due("is(0, 2)", x.is(0, 2), 0);
        Checks.due("is(0, 3)", x.is(0, 3), 1);
        Checks.due("is(2, 4)", x.is(2, 4), UNKNOWN);
        Checks.due("an answer that waits", Checks.on("Dq!*[=1].(a(a1").is(0, 1), 2);
        Checks.due("is(0, 0) of no element", Checks.on("Dq!*.").is(0, 0), UNKNOWN);
        Checks.due("is(0, 0) of no path", Checks.on("D(a").is(0, 0), UNKNOWN);
        for (int far : Checks.FAR) {
            Checks.due("is(" + far + ", 0)", x.is(far, 0), UNKNOWN);
            Checks.due("is(0, " + far + ")", x.is(0, far), UNKNOWN);
        }
    }

    private static void ends() {
        Checks.sentence("Promise 11", "Returns for which i an element surely matches the first i steps of a path.");
        PathStream x = Checks.on("Dq!a!a!*.q!*!*!*!*.q/a/*/a/b.q!a[b]!a/a.(a(a(a(b");
        int[][] want = {{1, 3, 7, 4}, {1, 3, 7, 15}, {1, 2, 4, 8}, {0, 0, 1, 0}};
        for (int p = 0; p < want.length; p++) {
            for (int e = 0; e < 4; e++) {
                Checks.due("ends(" + p + ", " + e + ")", x.ends(p, e), want[p][e]);
            }
        }
        Checks.sentence("Promise 11", "number of the path");
        Checks.due("ends(4, 0)", x.ends(4, 0), UNKNOWN);
        Checks.sentence("Promise 11", "number of the element");
        Checks.due("ends(0, 4)", x.ends(0, 4), UNKNOWN);
        Checks.due("ends(1, 20) of 20", States.deep().ends(1, 20), UNKNOWN);
        Checks.due("ends(1, 19) of 20", States.deep().ends(1, 19), 1);
        Checks.sentence("Promise 11", "Returns the set of these i, bit i - 1 for i; UNKNOWN if there is no such path or"
            + " element.");
        Checks.due("i = 1", Checks.on("Dq/a.(a").ends(0, 0), 1);
        Checks.due("none, though possibly", Checks.on("Dq/a[=1].(a").ends(0, 0), 0);
        Checks.due("i = 4", x.ends(2, 3), 8);
        Checks.due("ends(4, 4)", x.ends(4, 4), UNKNOWN);
        for (int far : Checks.FAR) {
            Checks.due("ends(" + far + ", 0)", x.ends(far, 0), UNKNOWN);
            Checks.due("ends(0, " + far + ")", x.ends(0, far), UNKNOWN);
        }
    }

    private static void out() {
        Checks.sentence("Promise 12", "Returns an emitted answer of a path.");
        PathStream x = Checks.on("Dq!b[=1].q!b[=1]/c.(b(c)(b1)1(c)");
        Checks.due("path 0", Checks.outs(x, 0), "0@7 2@7");
        Checks.due("path 1", Checks.outs(x, 1), "1@7 3@8");
        Checks.sentence("Promise 12", "number of the path");
        Checks.due("out(2, 0, true)", x.out(2, 0, true), UNKNOWN);
        Checks.sentence("Promise 12", "its index, from 0 for the one that was emitted first");
        Checks.due("out(1, 0, false)", x.out(1, 0, false), 1);
        Checks.due("out(1, 1, false)", x.out(1, 1, false), 3);
        Checks.sentence("Promise 12", "false for the number of the element, true for the time of emission");
        Checks.due("out(1, 1, false)", x.out(1, 1, false), 3);
        Checks.due("out(1, 1, true)", x.out(1, 1, true), 8);
        Checks.sentence("Promise 12", "Returns that number; NONE if there is no such index (for each other i); UNKNOWN if"
            + " there is no such path.");
        Checks.due("out(1, 2, false)", x.out(1, 2, false), NONE);
        Checks.due("out(1, 2, true)", x.out(1, 2, true), NONE);
        Checks.due("an answer that waits", Checks.on("Dq!*[=1].(a(a1").out(0, 0, true), NONE);
        PathStream twenty = Checks.on("Dq!*.(a" + "(b)".repeat(19));
        Checks.due("out(0, 19, false)", twenty.out(0, 19, false), 19);
        Checks.due("out(0, 20, false)", twenty.out(0, 20, false), NONE);
        for (int far : Checks.FAR) {
            Checks.due("out(0, " + far + ", true)", twenty.out(0, far, true), NONE);
            Checks.due("out(0, " + far + ", false)", twenty.out(0, far, false), NONE);
            Checks.due("out(" + far + ", 0, true)", twenty.out(far, 0, true), UNKNOWN);
            Checks.due("out(" + far + ", " + far + ", false)", twenty.out(far, far, false), UNKNOWN);
        }
    }
}
