/** The sentences of "Paths": steps, matching, answers and doubts, emitting, buffer and peak. */
final class PathSentences {
    private static final String CHAIN = "D(a(b(b(b(b(b(b(c";

    private PathSentences() {
    }

    static void run() {
        number();
        steps();
        stepParts();
        name();
        condition();
        axis();
        possibly();
        answerOrDoubt();
        emitting();
        time();
        buffer();
    }

    private static void says(String words) {
        Checks.sentence("Paths", words);
    }

    /** What is() answers for each element of a task, for one path. */
    private static void isDue(String path, String task, String want) {
        String text = "D" + path + task.substring(1);
        Checks.due(text, Checks.isOfAll(Checks.on(text), 0), want);
    }

    private static void number() {
        says("There are at most 5 paths, numbered from 0; two of them may be equal.");
        PathStream x = Checks.on("D(a");
        for (int p = 0; p < 5; p++) {
            Checks.due("about(0)", x.about(0), p);
            Checks.due("ask(1, 1500)", x.ask(1, 1500), p);
            Checks.due("path(" + p + ", 1)", x.path(p, 1), 1);
        }
        Checks.due("ask(1, 1500) as the sixth", x.ask(1, 1500), Checks.FULL);
        Checks.due("about(0)", x.about(0), 5);
        Checks.due("path(4, 0)", x.path(4, 0), 1);
        Checks.due("path(5, 0)", x.path(5, 0), Checks.UNKNOWN);
        x.drop();
        Checks.due("ask(1, 1500) after drop()", x.ask(1, 1500), 4);
        Checks.faultDue("D" + "q/a.".repeat(5), Checks.NONE);
        Checks.faultDue("D" + "q/a.".repeat(5) + "q", 21);
        Checks.faultDue("D" + "q/a.".repeat(6), 21);
    }

    private static void steps() {
        says("A path is a sequence of 1 to 4 steps.");
        PathStream x = new PathStream();
        for (int n = 1; n <= 4; n++) {
            Checks.due("ask(" + n + ", 0)", x.ask(n, 0), n - 1);
            Checks.due("path(" + (n - 1) + ", 0)", x.path(n - 1, 0), n);
            Checks.due("step behind the last", x.step(n - 1, n), Checks.UNKNOWN);
            Checks.faultDue("Dq" + "!b".repeat(n) + ".", Checks.NONE);
        }
        Checks.due("ask(0, 0)", x.ask(0, 0), Checks.BAD);
        Checks.due("ask(5, 0)", x.ask(5, 0), Checks.BAD);
        Checks.faultDue("Dq.", 2);
        Checks.faultDue("Dq!b!b!b!b!b.", 10);
    }

    private static void stepParts() {
        says("A step has an axis (0 child, 1 descendant), a test (a name 0 to 4, or 5 for any name), and a condition"
            + " (0 none; 1 to 5 for \"has a child with the name condition - 1\"; 6 to 15 for \"holds the digit"
            + " condition - 6\").");
        for (int code = 0; code < 10000; code++) {
            boolean isStep = code / 1000 <= 1 && code / 100 % 10 <= 5 && code % 100 <= 15;
            PathStream x = new PathStream();
            Checks.due("ask(1, " + code + ")", x.ask(1, code), isStep ? 0 : Checks.BAD);
            Checks.due("step(0, 0) after ask(1, " + code + ")", x.step(0, 0), isStep ? code : Checks.UNKNOWN);
        }
        PathStream x = Checks.on("D(a(a)(b)(c)(d)(e)");
        String[] byTest = {"220000", "002000", "000200", "000020", "000002", "222222"};
        for (int test = 0; test < 6; test++) {
            x.ask(1, 1000 + 100 * test);
            Checks.due("test " + test, Checks.isOfAll(x, 0), byTest[test]);
            x.drop();
        }
        for (int condition = 0; condition <= 15; condition++) {
            conditionNumber(condition);
        }
        isDue("q/*.", "D(a(a(a)", "200");
        isDue("q!*.", "D(a(a(a)", "222");
    }

    private static void conditionNumber(int condition) {
        for (int name = 0; name < 5; name++) {
            PathStream x = Checks.on("D(c(" + (char) ('a' + name) + "))");
            x.ask(1, condition);
            x.ask(1, 200 + condition);
            int want = condition == 0 || condition == name + 1 ? 1 : 0;
            Checks.due("answers of condition " + condition + " with the child " + name, x.path(1, 1), want);
            Checks.due("answers of the test 0", x.path(0, 1), 0);
        }
        for (int figure = 0; figure < 10; figure++) {
            PathStream x = Checks.on("D(c" + figure + ")");
            x.ask(1, 1200 + condition);
            int want = condition == 0 || condition == figure + 6 ? 1 : 0;
            Checks.due("answers of condition " + condition + " with the digit " + figure, x.path(0, 1), want);
        }
    }

    private static void name() {
        says("An element surely matches the first i steps of a path if - its name is the test of step i, or this test"
            + " is 5; and");
        isDue("q!b/c.", "D(b(c)(d)(b(c)(b))", "020020");
        isDue("q!b/*.", "D(b(c)(d)(b(c)(b))", "022222");
        isDue("q!*/c.", "D(b(c)(d)(b(c)(b))", "020020");
        PathStream x = Checks.on("Dq!a!b!*.(a(b(a(b");
        int[] want = {1, 2, 1 | 4, 2 | 4};
        for (int e = 0; e < want.length; e++) {
            Checks.due("ends(0, " + e + ")", x.ends(0, e), want[e]);
        }
    }

    private static void condition() {
        says("it fulfils the condition of step i: it has such a child (open or closed), or holds the digit; and");
        isDue("q!*[c].", "D(a(b(c", "121");
        isDue("q!*[c].", "D(a(b(c)", "120");
        isDue("q!*[c].", "D(a(b(c))", "120");
        isDue("q!*[c].", "D(a(b(c)))", "020");
        isDue("q!c[c].", "D(c(b(c)))", "000");
        isDue("q!*[=7].", "D(a(b7))", "02");
        isDue("q!*[=7].", "D(a7(b))", "20");
        isDue("q!*[=7].", "D(a70(b))", "20");
        isDue("q!*[=7].", "D(a(b)7)", "20");
        isDue("q!*[=7].", "D(a(b)6)", "00");
        isDue("q!a[=1]/b[=2].", "D(a1(b2)(b))", "020");
        isDue("q!a[=1]/b[=2].", "D(a2(b2)(b1))", "000");
    }

    private static void axis() {
        says("if i is 1: the axis of the step is descendant, or the element is element 0; if i is greater: its parent"
            + " (for the axis child), or some element around it, at any depth (for the axis descendant), surely"
            + " matches the first i - 1 steps.");
        isDue("q/a.", CHAIN, "20000000");
        isDue("q/b.", CHAIN, "00000000");
        isDue("q/*.", CHAIN, "20000000");
        isDue("q!b.", CHAIN, "02222220");
        isDue("q!*.", CHAIN, "22222222");
        isDue("q/a!c.", CHAIN, "00000002");
        isDue("q/a/c.", CHAIN, "00000000");
        isDue("q!b/c.", CHAIN, "00000002");
        isDue("q/a/b.", CHAIN, "02000000");
        isDue("q/a!b.", CHAIN, "02222220");
        isDue("q/a/b/b/b.", CHAIN, "00020000");
        isDue("q/a!b!b!b.", CHAIN, "00022220");
        isDue("q!*!*!*!*.", CHAIN, "00022222");
        isDue("q!b!a.", CHAIN, "00000000");
        isDue("q/a/a.", "D(a", "0");
        isDue("q!a!a.", "D(a", "0");
        isDue("q!a!a.", "D(a(a", "02");
        isDue("q!b/c.", "D(a(b)(c(b)))", "0000");
        isDue("q!b!c.", "D(a(b)(c(b)))", "0000");
        isDue("q!b!c.", "D(a(b(a(c)))(c)(a(c)))", "0002000");
        isDue("q!b/a!c.", "D(a(b(a(d(c))))(c)(a(c)))", "00002000");
    }

    private static void possibly() {
        says("An element possibly matches them by the same definition with \"possibly\" instead of \"surely\""
            + " throughout, where an open element counts as fulfilling every condition.");
        for (int condition = 0; condition <= 15; condition++) {
            PathStream x = Checks.on("D(a");
            x.ask(1, condition);
            x.ask(1, 100 + condition);
            Checks.due("open, condition " + condition, x.is(0, 0), condition == 0 ? 2 : 1);
            Checks.due("another name, condition " + condition, x.is(1, 0), 0);
            x.close();
            Checks.due("closed, condition " + condition, x.is(0, 0), condition == 0 ? 2 : 0);
        }
        isDue("q!a[=1]/b.", "D(a(b)(c)", "010");
        isDue("q!a[=1]/b[d].", "D(a(b)(b(d)", "0010");
        isDue("q!a[=1]!b[=2].", "D(a(b2)(b", "011");
        isDue("q!a[=1]!b[=2].", "D(a1(b2)(b", "021");
        isDue("q!a[=1]/b.", "D(a(a(b))", "000");
        isDue("q!a[=1]/b.", "D(a(c(b", "000");
        isDue("q!a[=1]!b.", "D(a(a(b))", "001");
        isDue("q!a[=1]!b.", "D(a(a(b)))", "000");
        isDue("q/b[=1]!b.", "D(a(b(b", "000");
        isDue("q!a[=1]/a.", "D(a(a(a", "011");
        isDue("q!a[=1]/a/a.", "D(a(a(a(a", "0011");
        isDue("q/a[c]!*[=1]!*[=2]!b.", CHAIN, "00011110");
        isDue("q/a[c]!b[=1]!b[=2]!c.", CHAIN, "00000001");
    }

    private static void answerOrDoubt() {
        says("An element is an answer of a path if it surely matches all of its steps; it is in doubt if it is not an"
            + " answer, but possibly matches all steps.");
        PathStream x = Checks.on("Dq!a/b[=1].(a(b");
        Checks.due("ends(0, 0): the first step alone", x.ends(0, 0), 1);
        Checks.due("is(0, 0): the first step alone", x.is(0, 0), 0);
        Checks.due("in doubt", x.is(0, 1), 1);
        Checks.due("path(0, 5)", x.path(0, 5), 1);
        Checks.due("path(0, 1)", x.path(0, 1), 0);
        x.tell(1);
        Checks.due("an answer", x.is(0, 1), 2);
        Checks.due("path(0, 5)", x.path(0, 5), 0);
        Checks.due("path(0, 1)", x.path(0, 1), 1);
        x.undo();
        x.close();
        Checks.due("neither", x.is(0, 1), 0);
        Checks.due("path(0, 5)", x.path(0, 5), 0);
        Checks.due("path(0, 1)", x.path(0, 1), 0);
    }

    private static void emitting() {
        says("After each event, and when a path is added (it considers all elements, also closed ones, then), each path"
            + " concerned emits those answers that it has not emitted yet and before which (that is, with a smaller"
            + " number) no element is in doubt, in ascending order.");
        Checks.due("after opening", Checks.outs(Checks.on("Dq!a[b].(a(b"), 0), "0@2");
        Checks.due("after closing", Checks.outs(Checks.on("Dq!a[=1].(a(a1))"), 0), "1@5");
        Checks.due("after a digit", Checks.outs(Checks.on("Dq!a[=1].(a1"), 0), "0@2");
        Checks.due("not emitted twice", Checks.outs(Checks.on("Dq!a[=1].(a11(b)1"), 0), "0@2");
        Checks.due("behind a doubt", Checks.outs(Checks.on("Dq!b[=1].(b(b1)(b1)"), 0), "");
        Checks.due("before a doubt", Checks.outs(Checks.on("Dq!b[=1].(b1(b1)(b"), 0), "0@2 1@4");
        Checks.due("between doubts", Checks.outs(Checks.on("Dq!b[=1].(a(b1)(b(b1)"), 0), "1@3");
        Checks.due("ascending", Checks.outs(Checks.on("Dq!b[=1].(b(b1)(b1)1"), 0), "0@8 1@8 2@8");
        Checks.due("the doubt is gone", Checks.outs(Checks.on("Dq!b[=1].(b(b1)(b1))"), 0), "1@8 2@8");
        PathStream each = Checks.on("Dq!*[=1].q!b[=1].q!b.(a(b1)");
        Checks.due("each by its own doubts", Checks.outs(each, 0), "");
        Checks.due("each by its own doubts", Checks.outs(each, 1), "1@3");
        Checks.due("each by its own doubts", Checks.outs(each, 2), "1@2");
        PathStream added = Checks.on("D(a(b)(b)(b");
        added.ask(1, 1100);
        Checks.due("all elements when added", Checks.outs(added, 0), "1@6 2@6 3@6");
        added.ask(1, 1500 + 1 + 1);
        Checks.due("behind a doubt when added", Checks.outs(added, 1), "0@6");
        added.ask(1, 1500 + 6);
        Checks.due("behind a doubt when added", Checks.outs(added, 2), "");
        PathStream ended = Checks.on("D(a(b0)(b))");
        ended.ask(1, 1506);
        Checks.due("added after the end", Checks.outs(ended, 0), "1@7");
    }

    private static void time() {
        says("The clock at this moment (after the event) is the time of emission.");
        PathStream x = Checks.on("Dq!*.(a2(b)");
        Checks.due("the first event is 1", Checks.outs(x, 0), "0@1 1@3");
        x.ask(1, 1500);
        Checks.due("when added, the present clock", Checks.outs(x, 1), "0@4 1@4");
        x.open(1);
        Checks.due("later", Checks.outs(x, 1), "0@4 1@4 2@5");
        x.undo();
        x.tell(4);
        x.open(1);
        Checks.due("another time after undo()", Checks.outs(x, 1), "0@4 1@4 2@6");
    }

    private static void buffer() {
        says("The buffer of a path are the elements that are in doubt, and the answers that are not emitted; its peak"
            + " is the greatest size of its buffer after an event (and after emitting), or when it was added.");
        PathStream x = Checks.on("Dq!b[=1].(b(b(b1");
        Checks.due("two doubts and an answer", x.path(0, 3), 3);
        Checks.due("peak", x.path(0, 4), 3);
        x.close();
        x.close();
        Checks.due("a doubt and an answer", x.path(0, 3), 2);
        Checks.due("the peak stays", x.path(0, 4), 3);
        x.close();
        Checks.due("empty", x.path(0, 3), 0);
        Checks.due("the peak stays", x.path(0, 4), 3);
        Checks.due("after emitting", Checks.on("Dq!b.(b(b(b").path(0, 4), 0);
        PathStream added = Checks.on("D(a(a(a1)");
        added.ask(1, 1007);
        Checks.due("buffer when added", added.path(0, 3), 3);
        Checks.due("peak when added", added.path(0, 4), 3);
        added.ask(1, 1000);
        Checks.due("peak when added, after emitting", added.path(1, 4), 0);
        added.tell(1);
        Checks.due("peak when added, later", added.path(0, 4), 3);
        twentyInTheBuffer();
    }

    private static void twentyInTheBuffer() {
        PathStream x = Checks.on("Dq!*[=1].(a" + "(b1)".repeat(19));
        Checks.due("a doubt and 19 answers", x.path(0, 3), 20);
        Checks.due("peak", x.path(0, 4), 20);
        Checks.due("out(0, 0, false)", x.out(0, 0, false), Checks.NONE);
        for (int p = 1; p < 5; p++) {
            x.ask(1, 1507);
            Checks.due("peak when added", x.path(p, 4), 20);
        }
        Checks.due("tell(1)", x.tell(1), 100);
        Checks.due("out(4, 19, false)", x.out(4, 19, false), 19);
        Checks.due("out(4, 19, true)", x.out(4, 19, true), 59);
        Checks.due("buffer", x.path(0, 3), 0);
        Checks.due("the peak stays", x.path(0, 4), 20);
        PathStream y = Checks.on("Dq!*[=1]!*.(a" + "(b)".repeat(19));
        Checks.due("19 doubts", y.path(0, 5), 19);
        Checks.due("close()", y.close(), 0);
        Checks.due("no doubt", y.path(0, 5), 0);
        Checks.due("peak", y.path(0, 4), 19);
    }
}
