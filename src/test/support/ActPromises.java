import java.util.function.Consumer;

/** The sentences of the promises 13 to 18: the actions, and undo(). */
final class ActPromises {
    private static final int UNKNOWN = Checks.UNKNOWN, BAD = Checks.BAD, LATE = Checks.LATE, FULL = Checks.FULL;


    private ActPromises() {
    }

    static void run() {
        open();
        close();
        tell();
        ask();
        askSteps();
        askErrors();
        drop();
        undo();
        undoCount();
    }

    private static void open() {
        Checks.sentence("Promise 13", "Opens an element.");
        PathStream x = Checks.on("Dq!a[b].q!b.(a");
        Checks.due("open(1)", x.open(1), 1);
        Checks.due("about", Checks.aboutAll(x), "2 2 1 2 2 2 1 0 14");
        Checks.due("path 0", Checks.outs(x, 0), "0@2");
        Checks.due("path 1", Checks.outs(x, 1), "1@2");
        Checks.sentence("Promise 13", "0 to 4");
        for (int name = 0; name <= 4; name++) {
            PathStream y = new PathStream();
            Checks.due("open(" + name + ")", y.open(name), 0);
            Checks.due("element(0, 0)", y.element(0, 0), name);
        }
        Checks.due("open(-1)", x.open(-1), BAD);
        Checks.due("open(5)", x.open(5), BAD);
        Checks.sentence("Promise 13", "Returns the number of the element; BAD if name is out of range; LATE if element 0 is"
            + " closed, or the current element has the depth 8; FULL if 20 elements were opened.");
        PathStream z = new PathStream();
        for (int e = 0; e < 8; e++) {
            Checks.due("open(0) at depth " + e, z.open(0), e);
        }
        for (int e = 8; e < 20; e++) {
            Checks.due("open(0) at depth 8", z.open(0), LATE);
            Checks.due("open(5) at depth 8", z.open(5), BAD);
            z.close();
            Checks.due("open(0) at depth 7", z.open(0), e);
        }
        Checks.due("open(0) at depth 8 as the 21st", z.open(0), LATE);
        for (int depth = 7; depth > 0; depth--) {
            z.close();
            Checks.due("open(0) as the 21st", z.open(0), FULL);
            Checks.due("open(5) as the 21st", z.open(5), BAD);
        }
        z.close();
        Checks.due("open(0) at the end", z.open(0), LATE);
        Checks.due("open(5) at the end", z.open(5), BAD);
        for (int far : Checks.FAR) {
            Checks.due("open(" + far + ")", new PathStream().open(far), BAD);
        }
    }

    private static void close() {
        Checks.sentence("Promise 14", "Closes the current element.");
        PathStream x = Checks.on("D(a(b");
        x.close();
        Checks.due("element(1, 3)", x.element(1, 3), 0);
        Checks.due("element(0, 3)", x.element(0, 3), 1);
        Checks.due("about", Checks.aboutAll(x), "0 2 0 1 3 0 1 0 5");
        x.close();
        Checks.due("about", Checks.aboutAll(x), "0 2 -9 0 4 0 2 0 5");
        Checks.sentence("Promise 14", "Returns how many answers are emitted by this event, over all paths (an element that"
            + " is emitted by two paths counts twice); LATE if no element is open.");
        PathStream y = Checks.on("Dq!b[=1].q!b[=1].q!*[=1].q!b.(a(b(b1)(b1)");
        Checks.due("two elements by two paths", y.close(), 4);
        Checks.due("two elements by one path", y.close(), 2);
        Checks.due("at the end", y.close(), LATE);
        Checks.due("nothing to emit", Checks.on("Dq!*.(a").close(), 0);
        Checks.due("without paths", Checks.on("D(a").close(), 0);
        Checks.due("without elements", new PathStream().close(), LATE);
        PathStream most = Checks.on("D(a(b" + "(b1)".repeat(18));
        for (int p = 0; p < 5; p++) {
            most.ask(1, 1107);
        }
        Checks.due("18 elements by five paths", most.close(), 90);
    }

    private static void tell() {
        Checks.sentence("Promise 15", "Gives a digit to the current element.");
        PathStream x = Checks.on("D(a(b)");
        x.tell(6);
        Checks.due("element(0, 4)", x.element(0, 4), 1 << 6);
        Checks.due("element(1, 4)", x.element(1, 4), 0);
        Checks.due("about", Checks.aboutAll(x), "0 2 0 1 4 0 1 0 6");
        Checks.sentence("Promise 15", "0 to 9");
        for (int figure = 0; figure <= 9; figure++) {
            PathStream y = Checks.on("D(a");
            Checks.due("tell(" + figure + ")", y.tell(figure), 0);
            Checks.due("element(0, 4)", y.element(0, 4), 1 << figure);
        }
        Checks.due("tell(-1)", x.tell(-1), BAD);
        Checks.due("tell(10)", x.tell(10), BAD);
        Checks.sentence("Promise 15", "Returns how many answers are emitted by this event, over all paths; BAD if figure is"
            + " out of range; LATE if no element is open.");
        PathStream z = Checks.on("Dq!*[=1].q!*[=1].q!*[=1]/b.q!b[=1].(a(b1)");
        Checks.due("tell(0)", z.tell(0), 0);
        Checks.due("two elements by two paths, one by another", z.tell(1), 5);
        Checks.due("the same digit again", z.tell(1), 0);
        z.close();
        Checks.due("tell(1) at the end", z.tell(1), LATE);
        Checks.due("tell(10) at the end", z.tell(10), BAD);
        Checks.due("tell(0) without elements", new PathStream().tell(0), LATE);
        Checks.due("tell(10) without elements", new PathStream().tell(10), BAD);
        for (int far : Checks.FAR) {
            Checks.due("tell(" + far + ")", Checks.on("D(a").tell(far), BAD);
        }
    }

    private static void ask() {
        Checks.sentence("Promise 16", "Adds a path.");
        PathStream x = Checks.on("Dq!a.(a(b)(b1)(b");
        Checks.due("ask(2, 10000107)", x.ask(2, 1000_0107L), 1);
        Checks.due("about(0)", x.about(0), 2);
        Checks.due("step(1, 0)", x.step(1, 0), 1000);
        Checks.due("step(1, 1)", x.step(1, 1), 107);
        Checks.due("what it emits at once", Checks.outs(x, 1), "2@7");
        Checks.due("its peak", x.path(1, 4), 1);
        Checks.due("the path before", Checks.outs(x, 0), "0@1");
        Checks.due("the clock", x.about(4), 7);
        Checks.due("about(6)", x.about(6), 1);
        Checks.sentence("Promise 16", "the number of its steps, 1 to 4");
        PathStream y = new PathStream();
        for (int n = 1; n <= 4; n++) {
            Checks.due("ask(" + n + ", 1)", y.ask(n, 1), n - 1);
            Checks.due("path(" + (n - 1) + ", 0)", y.path(n - 1, 0), n);
            Checks.due("the last step", y.step(n - 1, n - 1), 1);
            Checks.due("the first step", y.step(n - 1, 0), n == 1 ? 1 : 0);
        }
        Checks.due("ask(0, 1)", y.ask(0, 1), BAD);
        Checks.due("ask(5, 1)", y.ask(5, 1), BAD);
    }

    private static void askSteps() {
        Checks.sentence("Promise 16", "the steps as a decimal number with four digits for each step (axis, test, and two"
            + " digits for the condition), the first step having the highest digits (leading zeros may be missing)");
        PathStream x = new PathStream();
        x.ask(4, 1515_0014_1403_0206L);
        int[] want = {1515, 14, 1403, 206};
        for (int i = 0; i < want.length; i++) {
            Checks.due("step(0, " + i + ")", x.step(0, i), want[i]);
        }
        x.ask(3, 9);
        Checks.due("step(1, 0)", x.step(1, 0), 0);
        Checks.due("step(1, 1)", x.step(1, 1), 0);
        Checks.due("step(1, 2)", x.step(1, 2), 9);
        x.ask(2, 500_1000L);
        Checks.due("step(2, 0)", x.step(2, 0), 500);
        Checks.due("step(2, 1)", x.step(2, 1), 1000);
        Checks.due("the same as 1500150015001500", x.ask(4, 1500150015001500L), 3);
        Checks.due("the greatest", x.ask(4, 1515151515151515L), 4);
        for (int i = 0; i < 4; i++) {
            Checks.due("step(3, " + i + ")", x.step(3, i), 1500);
            Checks.due("step(4, " + i + ")", x.step(4, i), 1515);
        }
    }

    private static void askErrors() {
        Checks.sentence("Promise 16", "Returns the number of the path; BAD if n is not 1 to 4, steps is negative or has more"
            + " than 4 * n digits, or a step has another axis than 0 or 1, another test than 0 to 5, or another condition"
            + " than 0 to 15; FULL if there are 5 paths.");
        PathStream x = new PathStream();
        for (int far : Checks.FAR) {
            Checks.due("ask(" + far + ", 0)", x.ask(far, 0), BAD);
        }
        long places = 1;
        for (int n = 1; n <= 4; n++) {
            Checks.due("negative", x.ask(n, -1), BAD);
            Checks.due("negative", x.ask(n, -places), BAD);
            Checks.due("least", x.ask(n, Long.MIN_VALUE), BAD);
            Checks.due("greatest", x.ask(n, Long.MAX_VALUE), BAD);
            Checks.due("axis 2 first", x.ask(n, 2000 * places), BAD);
            Checks.due("test 6 first", x.ask(n, 600 * places), BAD);
            Checks.due("condition 16 first", x.ask(n, 16 * places), BAD);
            Checks.due("condition 99 first", x.ask(n, 99 * places), BAD);
            Checks.due("axis 9 last", x.ask(n, 9000), BAD);
            Checks.due("test 9 last", x.ask(n, 1900), BAD);
            Checks.due("condition 20 last", x.ask(n, 20), BAD);
            places *= 10000;
            Checks.due(4 * n + 1 + " digits", x.ask(n, places), BAD);
            Checks.due(4 * n + 1 + " digits", x.ask(n, places + 1500), BAD);
            Checks.due("about(0)", x.about(0), 0);
        }
        for (int p = 0; p < 5; p++) {
            Checks.due("ask(1, 1515)", x.ask(1, 1515), p);
        }
        Checks.due("ask(1, 1515) as the sixth", x.ask(1, 1515), FULL);
        Checks.due("ask(5, 0) as the sixth", x.ask(5, 0), BAD);
        Checks.due("ask(1, 2000) as the sixth", x.ask(1, 2000), BAD);
        Checks.due("ask(1, -1) as the sixth", x.ask(1, -1), BAD);
        Checks.due("ask(1, 10000) as the sixth", x.ask(1, 10000), BAD);
    }

    private static void drop() {
        Checks.sentence("Promise 17", "Removes the last path, with what it has emitted.");
        PathStream x = Checks.on("Dq!a.q!*[=1].(a(a1)1");
        Checks.due("path 1", Checks.outs(x, 1), "0@5 1@5");
        x.drop();
        Checks.due("path(1, 0)", x.path(1, 0), UNKNOWN);
        Checks.due("out(1, 0, true)", x.out(1, 0, true), UNKNOWN);
        Checks.due("the path before", Checks.outs(x, 0), "0@1 1@2");
        Checks.due("the clock", x.about(4), 5);
        x.tell(2);
        x.ask(1, 1507);
        Checks.due("the same path anew", Checks.outs(x, 1), "0@6 1@6");
        Checks.due("its peak anew", x.path(1, 4), 0);
        x.drop();
        x.ask(1, 1200);
        Checks.due("another path anew", Checks.outs(x, 1), "");
        Checks.sentence("Promise 17", "Returns the number of paths that are left; LATE if there are none.");
        PathStream y = Checks.on("D" + "q/a.".repeat(5));
        for (int left = 4; left >= 0; left--) {
            Checks.due("drop()", y.drop(), left);
            Checks.due("about(0)", y.about(0), left);
        }
        Checks.due("drop() of none", y.drop(), LATE);
        Checks.due("drop() of a new object", new PathStream().drop(), LATE);
        Checks.due("about(6)", y.about(6), 5);
    }

    private static void undoneDue(String told, Consumer<PathStream> action) {
        Checks.sameDue("undo() of " + told, () -> {
            PathStream x = States.ordinary();
            action.accept(x);
            x.undo();
            return x;
        }, States::ordinary);
    }

    private static void undo() {
        Checks.sentence("Promise 18", "Undoes the last recorded action, which is not recorded any more: elements, the clock"
            + " and paths (with their emitted answers and peaks) are as before it.");
        undoneDue("open", x -> x.open(1));
        undoneDue("close", PathStream::close);
        undoneDue("tell", x -> x.tell(1));
        undoneDue("ask", x -> x.ask(2, 15001500));
        undoneDue("drop", PathStream::drop);
        undoneDue("an action behind one that is undone", x -> {
            x.tell(1);
            x.undo();
            x.drop();
        });
        PathStream x = Checks.on("Dq!*[=1].(a(a1)");
        x.tell(1);
        Checks.due("emitted", Checks.outs(x, 0), "0@5 1@5");
        x.undo();
        Checks.due("not emitted", Checks.outs(x, 0), "");
        Checks.due("the buffer", x.path(0, 3), 2);
        x.open(0);
        x.open(0);
        Checks.due("the peak", x.path(0, 4), 4);
        x.undo();
        Checks.due("the peak before", x.path(0, 4), 3);
        Checks.due("element(3, 0)", x.element(3, 0), UNKNOWN);
        Checks.due("open(2) anew", x.open(2), 3);
        Checks.due("element(3, 0)", x.element(3, 0), 2);
        Checks.due("element(3, 4)", x.element(3, 4), 0);
        nothingOfTheUndone();
        undoLeavesTheRest();
    }

    /** An element with the number of one that is undone has neither its digits nor its children. */
    private static void nothingOfTheUndone() {
        PathStream x = Checks.on("Dq!c[=5].q!*[d].(a");
        x.open(1);
        x.tell(5);
        x.open(3);
        for (int i = 0; i < 3; i++) {
            x.undo();
        }
        Checks.due("path(0, 4) before", x.path(0, 4), 0);
        x.open(2);
        Checks.due("element(1, 0)", x.element(1, 0), 2);
        Checks.due("element(1, 4)", x.element(1, 4), 0);
        Checks.due("element(1, 5)", x.element(1, 5), 0);
        Checks.due("path 0", Checks.isOfAll(x, 0), "01");
        Checks.due("path 1", Checks.isOfAll(x, 1), "11");
    }

    private static void undoLeavesTheRest() {
        PathStream x = Checks.on("Dq!a.(a");
        x.tell(1);
        x.see(0, 1);
        x.seed(9);
        x.keep(1);
        x.write('x');
        x.undo();
        Checks.due("the observations stay", x.about(7), 1);
        Checks.due("the text stays", x.about(8), 8);
        Checks.due("the random number stays", x.seed(0), 9);
        Checks.due("the slots stay", x.again(1), 2);
    }

    private static void undoCount() {
        Checks.sentence("Promise 18", "Returns the number of actions that are still recorded; LATE if none is recorded.");
        PathStream x = States.wide();
        for (int left = 13; left >= 0; left--) {
            Checks.due("undo()", x.undo(), left);
        }
        Checks.due("undo() of the 15th", x.undo(), LATE);
        Checks.due("undo() again", x.undo(), LATE);
        Checks.due("undo() of a new object", new PathStream().undo(), LATE);
        PathStream y = new PathStream();
        for (int i = 0; i < 30; i++) {
            y.ask(1, 0);
            Checks.due("undo() of the only one", y.undo(), 0);
            Checks.due("undo() of none", y.undo(), LATE);
        }
        Checks.due("about(0)", y.about(0), 0);
    }
}
