/** For each promise of the document: ordinary inputs, the edges that it names, and wrong inputs. */
public final class PromiseTest {
    private static final int UNKNOWN = -1, BAD = -2, LATE = -3, FULL = -4, NONE = -9;
    private static final int[] FAR = {-1, Integer.MIN_VALUE, Integer.MAX_VALUE};

    private static int wrong = 0;
    private static int checks = 0;
    private static int promise = 0;

    private static void due(String call, long got, long want) {
        checks++;
        if (got != want) {
            wrong++;
            System.out.println("promise " + promise + ": " + call + " answered " + got + ", due is " + want);
        }
    }

    private static void put(PathStream x, String text) {
        x.wipe();
        for (char letter : text.toCharArray()) {
            x.write(letter);
        }
    }

    private static PathStream on(String task) {
        PathStream x = new PathStream();
        put(x, task);
        if (x.task() < 0) {
            due("task() of " + task, x.fault(), NONE);
        }
        return x;
    }

    private static void faultDue(String text, int want) {
        PathStream x = new PathStream();
        put(x, text);
        due("fault() of " + text, x.fault(), want);
        due("task() of " + text, Math.min(0, x.task()), want == NONE ? 0 : LATE);
    }

    private static void outsDue(String told, PathStream x, int path, int... elementsAndTimes) {
        int n = elementsAndTimes.length / 2;
        due(told + " path(" + path + ", 2)", x.path(path, 2), n);
        for (int i = 0; i < n; i++) {
            due(told + " out(" + path + ", " + i + ", false)", x.out(path, i, false), elementsAndTimes[2 * i]);
            due(told + " out(" + path + ", " + i + ", true)", x.out(path, i, true), elementsAndTimes[2 * i + 1]);
        }
        due(told + " out behind the last", x.out(path, n, false), NONE);
    }

    private static void pathDue(String told, PathStream x, int path, int... from1) {
        for (int i = 0; i < from1.length; i++) {
            due(told + " path(" + path + ", " + (i + 1) + ")", x.path(path, i + 1), from1[i]);
        }
    }

    private static void newObject() {
        PathStream x = new PathStream();
        int[] want = {0, 0, NONE, 0, 0, 0, 0, 0, 0};
        for (int what = 0; what < want.length; what++) {
            due("about(" + what + ")", x.about(what), want[what]);
        }
        due("undo()", x.undo(), LATE);
        due("again(0)", x.again(0), LATE);
        due("again(1)", x.again(1), LATE);
        due("unsee()", x.unsee(), 0);
        due("wipe()", x.wipe(), 0);
        due("seed(3)", x.seed(3), 0);
        due("element(0, 0)", x.element(0, 0), UNKNOWN);
        due("path(0, 0)", x.path(0, 0), UNKNOWN);
        new PathStream().open(1);
        due("objects are apart", x.about(1), 0);
    }

    private static void write() {
        PathStream x = new PathStream();
        due("write(-1)", x.write(-1), BAD);
        due("write(256)", x.write(256), BAD);
        due("about(8)", x.about(8), 0);
        due("write(0)", x.write(0), 1);
        due("write(255)", x.write(255), 2);
        for (int i = 3; i <= 99; i++) {
            due("write(68)", x.write(68), i);
        }
        due("write(68) when full", x.write(68), FULL);
        due("write(256) when full", x.write(256), BAD);
        due("about(8)", x.about(8), 99);
        for (int far : FAR) {
            due("write(" + far + ")", x.write(far), BAD);
        }
    }

    private static void wipe() {
        PathStream x = new PathStream();
        put(x, "D(a");
        due("wipe()", x.wipe(), 3);
        due("wipe()", x.wipe(), 0);
        due("fault()", x.fault(), 0);
        due("write('D')", x.write('D'), 1);
        due("fault()", x.fault(), NONE);
    }

    private static void faultOfPaths() {
        faultDue("", 0);
        faultDue("d", 0);
        faultDue(" D", 0);
        faultDue("D", NONE);
        faultDue("D ", 1);
        faultDue("DD", 1);
        faultDue("Dq", 2);
        faultDue("Dq.", 2);
        faultDue("Dqa", 2);
        faultDue("Dq/", 3);
        faultDue("Dq//", 3);
        faultDue("Dq/f", 3);
        faultDue("Dq/a", 4);
        faultDue("Dq/e.", NONE);
        faultDue("Dq!*.", NONE);
        faultDue("Dq/ab", 4);
        faultDue("Dq/a(", 4);
        faultDue("Dq/a[", 5);
        faultDue("Dq/a[]", 5);
        faultDue("Dq/a[*]", 5);
        faultDue("Dq/a[5]", 5);
        faultDue("Dq/a[f]", 5);
        faultDue("Dq/a[e", 6);
        faultDue("Dq/a[e.", 6);
        faultDue("Dq/a[e]", 7);
        faultDue("Dq/a[e].", NONE);
        faultDue("Dq/a[e][", 7);
        faultDue("Dq/a[=", 6);
        faultDue("Dq/a[=a", 6);
        faultDue("Dq/a[=12", 7);
        faultDue("Dq/a[=9]!*[=0].", NONE);
        faultDue("Dq/a/b!c!d.", NONE);
        faultDue("Dq/a/b!c!d", 10);
        faultDue("Dq/a/b!c!d[a].", NONE);
        faultDue("Dq/a/b!c!d/", 10);
        faultDue("Dq/a/b!c!d[a]!", 13);
        faultDue("Dq/a.q/a.q/a.q/a.q/a.", NONE);
        faultDue("Dq/a.q/a.q/a.q/a.q/a.q", 21);
    }

    private static void faultOfEvents() {
        faultDue("D(", 2);
        faultDue("D(f", 2);
        faultDue("D(*", 2);
        faultDue("D)", 1);
        faultDue("D0", 1);
        faultDue("D(a", NONE);
        faultDue("D(a09(e)7)", NONE);
        faultDue("D(aq", 3);
        faultDue("D(a1q", 4);
        faultDue("D(a)q", 4);
        faultDue("D(a)(", 4);
        faultDue("D(a))", 4);
        faultDue("D(a)1", 4);
        faultDue("D(a(a(a(a(a(a(a(a", NONE);
        faultDue("D(a(a(a(a(a(a(a(a(", 17);
        faultDue("D(a(a(a(a(a(a(a(a)(a1", NONE);
        StringBuilder many = new StringBuilder("D(a");
        for (int i = 1; i < 20; i++) {
            many.append("(b)");
        }
        faultDue(many.toString(), NONE);
        faultDue(many + "(", many.length());
        faultDue(many + ")", NONE);
        faultDue("Dq/a.(a" + "1".repeat(92), NONE);
        faultDue("Dq/a.(a" + "1".repeat(91) + (char) 225, 98);
        PathStream x = on("D(b");
        put(x, "D(a(a");
        x.fault();
        due("fault() changes nothing", x.about(1), 1);
    }

    private static void task() {
        PathStream x = on("Dq/a.q!b[=3].(a(b3(b))");
        due("about(0)", x.about(0), 2);
        due("about(1)", x.about(1), 3);
        due("about(2)", x.about(2), 0);
        due("about(4)", x.about(4), 6);
        outsDue("task", x, 0, 0, 1);
        outsDue("task", x, 1, 1, 3);
        due("peak of the task", x.path(1, 4), 1);
        x.see(1, 1);
        x.seed(8);
        x.keep(0);
        x.keep(1);
        x.tell(1);
        due("about(6)", x.about(6), 1);
        put(x, "Dq!c.(c)x");
        due("task() of no task", x.task(), LATE);
        due("about(1) stays", x.about(1), 3);
        due("about(6) stays", x.about(6), 1);
        due("again(1) stays", x.again(1), 6);
        x.tell(1);
        put(x, "D");
        due("task() of D", x.task(), 0);
        int[] want = {0, 0, NONE, 0, 0, 0, 0, 1, 1};
        for (int what = 0; what < want.length; what++) {
            due("about(" + what + ") after D", x.about(what), want[what]);
        }
        due("again(0)", x.again(0), LATE);
        due("again(1)", x.again(1), LATE);
        due("undo()", x.undo(), LATE);
        due("seed(0)", x.seed(0), 8);
        due("open(4)", x.open(4), 0);
    }

    private static void about() {
        PathStream x = on("Dq/a/b.q/a/b!c.q/a[b]/b.q!a.q/a/b.(a(b");
        int[] want = {5, 2, 1, 2, 2, 6, 0, 0, 38};
        for (int what = 0; what < want.length; what++) {
            due("about(" + what + ")", x.about(what), want[what]);
        }
        x.see(0, 0);
        x.close();
        x.close();
        due("about(2)", x.about(2), NONE);
        due("about(3)", x.about(3), 0);
        due("about(4)", x.about(4), 4);
        due("about(6)", x.about(6), 2);
        due("about(7)", x.about(7), 1);
        due("about(9)", x.about(9), BAD);
        for (int far : FAR) {
            due("about(" + far + ")", x.about(far), BAD);
        }
        for (int i = 0; i < 20; i++) {
            x.drop();
            x.ask(1, 1500);
        }
        due("about(6)", x.about(6), 14);
        PathStream y = new PathStream();
        y.ask(2, 100);
        y.drop();
        y.ask(1, 0);
        y.ask(2, 100);
        due("about(5) without what was dropped", y.about(5), 2);
        due("about(5)", on("Dq/a!b.q!b!b.q/a[=1].q/a[b].q/b.").about(5), 7);
    }

    private static void element() {
        PathStream x = on("D(c37(a)9(e3(a");
        int[][] want = {{2, NONE, 1, 1, 1 << 3 | 1 << 7 | 1 << 9, 1 | 1 << 4}, {0, 0, 2, 0, 0, 0},
            {4, 0, 2, 1, 8, 1}, {0, 2, 3, 1, 0, 0}};
        for (int e = 0; e < want.length; e++) {
            for (int what = 0; what < 6; what++) {
                due("element(" + e + ", " + what + ")", x.element(e, what), want[e][what]);
            }
        }
        due("element(4, 0)", x.element(4, 0), UNKNOWN);
        due("element(4, 9)", x.element(4, 9), UNKNOWN);
        due("element(0, 6)", x.element(0, 6), BAD);
        for (int far : FAR) {
            due("element(" + far + ", 0)", x.element(far, 0), UNKNOWN);
            due("element(0, " + far + ")", x.element(0, far), BAD);
        }
    }

    private static void path() {
        PathStream x = on("Dq!a[b].q!*!a[b].q/a.");
        due("path(1, 0)", x.path(1, 0), 2);
        pathDue("empty", x, 0, 0, 0, 0, 0, 0, 0);
        x.open(0);
        x.open(0);
        x.open(0);
        pathDue("three open", x, 0, 0, 0, 3, 3, 3, 0);
        pathDue("three open", x, 1, 0, 0, 2, 2, 2, 0);
        pathDue("three open", x, 2, 1, 1, 0, 0, 0, 1);
        x.open(1);
        pathDue("b opened", x, 0, 1, 0, 3, 3, 2, 1);
        x.close();
        x.close();
        pathDue("two closed", x, 0, 1, 0, 3, 3, 2, 1);
        x.close();
        pathDue("three closed", x, 0, 1, 0, 2, 3, 1, 1);
        pathDue("three closed", x, 1, 1, 1, 0, 2, 0, 1);
        x.close();
        pathDue("all closed", x, 0, 1, 1, 0, 3, 0, 1);
        outsDue("path", x, 0, 2, 8);
        outsDue("path", x, 1, 2, 7);
        due("path(3, 0)", x.path(3, 0), UNKNOWN);
        due("path(3, 7)", x.path(3, 7), UNKNOWN);
        due("path(0, 7)", x.path(0, 7), BAD);
        for (int far : FAR) {
            due("path(" + far + ", 0)", x.path(far, 0), UNKNOWN);
            due("path(0, " + far + ")", x.path(0, far), BAD);
        }
    }

    private static void step() {
        PathStream x = on("Dq/a!*[e]/e[=9]!c[=0].q!b[a].");
        int[] want = {0, 1505, 415, 1206};
        for (int i = 0; i < want.length; i++) {
            due("step(0, " + i + ")", x.step(0, i), want[i]);
        }
        due("step(0, 4)", x.step(0, 4), UNKNOWN);
        due("step(1, 0)", x.step(1, 0), 1101);
        due("step(1, 1)", x.step(1, 1), UNKNOWN);
        due("step(2, 0)", x.step(2, 0), UNKNOWN);
        for (int far : FAR) {
            due("step(" + far + ", 0)", x.step(far, 0), UNKNOWN);
            due("step(0, " + far + ")", x.step(0, far), UNKNOWN);
        }
    }

    private static void isAnswer() {
        PathStream x = on("Dq!a[=1]/b.q/b.q!*[c]!*[d].(a(b)(c)");
        due("in doubt by its parent", x.is(0, 1), 1);
        due("another name", x.is(0, 2), 0);
        due("child of no element", x.is(1, 1), 0);
        due("the second step fails", x.is(2, 1), 0);
        due("descendant needs another element", x.is(2, 0), 0);
        x.tell(1);
        due("sure by its parent", x.is(0, 1), 2);
        x.open(4);
        due("may get a child", x.is(2, 3), 1);
        x.open(3);
        due("has an open child", x.is(2, 3), 2);
        x.close();
        due("has a closed child", x.is(2, 3), 2);
        due("is(3, 0)", x.is(3, 0), UNKNOWN);
        due("is(0, 5)", x.is(0, 5), UNKNOWN);
        for (int far : FAR) {
            due("is(" + far + ", 0)", x.is(far, 0), UNKNOWN);
            due("is(0, " + far + ")", x.is(0, far), UNKNOWN);
        }
        PathStream z = on("Dq!a[=1]/b.q!a[=1]!b.(a(c(b");
        due("no child of an element in doubt", z.is(0, 2), 0);
        due("descendant of an element in doubt", z.is(1, 2), 1);
        PathStream y = on("Dq!a[b].(a");
        due("open", y.is(0, 0), 1);
        y.close();
        due("closed without it", y.is(0, 0), 0);
    }

    private static void ends() {
        PathStream x = on("Dq!a!a!*.q!a[b]!a/a.q/a/*/a/b.(a(a(a(b");
        int[][] want = {{1, 3, 7, 4}, {0, 0, 1, 0}, {1, 2, 4, 8}};
        for (int p = 0; p < want.length; p++) {
            for (int e = 0; e < 4; e++) {
                due("ends(" + p + ", " + e + ")", x.ends(p, e), want[p][e]);
            }
        }
        due("ends(3, 0)", x.ends(3, 0), UNKNOWN);
        due("ends(0, 4)", x.ends(0, 4), UNKNOWN);
        for (int far : FAR) {
            due("ends(" + far + ", 0)", x.ends(far, 0), UNKNOWN);
            due("ends(0, " + far + ")", x.ends(0, far), UNKNOWN);
        }
    }

    private static void out() {
        PathStream x = on("Dq!b[=1].q!*[=2].(a(b(b1)(b1)1)(b1)");
        outsDue("ascending", x, 0, 1, 9, 2, 9, 3, 9, 4, 12);
        outsDue("behind a doubt", x, 1);
        x.tell(2);
        outsDue("sure now", x, 1, 0, 14);
        due("out(2, 0, true)", x.out(2, 0, true), UNKNOWN);
        due("out(2, -1, true)", x.out(2, -1, true), UNKNOWN);
        for (int far : FAR) {
            due("out(0, " + far + ", true)", x.out(0, far, true), NONE);
            due("out(0, " + far + ", false)", x.out(0, far, false), NONE);
            due("out(" + far + ", 0, true)", x.out(far, 0, true), UNKNOWN);
        }
    }

    private static void open() {
        PathStream x = new PathStream();
        due("open(5)", x.open(5), BAD);
        for (int far : FAR) {
            due("open(" + far + ")", x.open(far), BAD);
        }
        for (int i = 0; i < 8; i++) {
            due("open(4)", x.open(4), i);
        }
        due("open(0) at depth 8", x.open(0), LATE);
        due("open(5) at depth 8", x.open(5), BAD);
        due("about(4)", x.about(4), 8);
        due("about(6)", x.about(6), 8);
        for (int i = 8; i < 20; i++) {
            x.close();
            due("open(1)", x.open(1), i);
        }
        due("open(0) as the 21st at depth 8", x.open(0), LATE);
        x.close();
        due("open(0) as the 21st", x.open(0), FULL);
        due("open(5) as the 21st", x.open(5), BAD);
        for (int i = 0; i < 7; i++) {
            x.close();
        }
        due("open(0) after the end", x.open(0), LATE);
        PathStream y = on("Dq!*.(a)");
        due("open(0) after the end", y.open(0), LATE);
        due("about(1)", y.about(1), 1);
    }

    private static void close() {
        PathStream x = on("Dq!b[=1].q!*[=1].q!a.(a(b(b1");
        due("still in doubt", x.close(), 0);
        due("two paths, one of them waiting", x.close(), 1);
        due("the other", x.close(), 1);
        due("close() after the end", x.close(), LATE);
        due("about(4)", x.about(4), 7);
        due("about(6)", x.about(6), 3);
        due("element(0, 3)", x.element(0, 3), 0);
        due("close() of a new object", new PathStream().close(), LATE);
        PathStream y = on("Dq!b[=1].q!b[=1].(b(b1)");
        due("one element of two paths", y.close(), 2);
        outsDue("close", y, 1, 1, 5);
    }

    private static void tell() {
        PathStream x = on("Dq!b[=1].q!b[=1].q!*[=0].(a(b");
        due("tell(10)", x.tell(10), BAD);
        due("tell(1)", x.tell(1), 2);
        due("tell(1) again", x.tell(1), 0);
        due("tell(0)", x.tell(0), 0);
        x.close();
        due("tell(0)", x.tell(0), 2);
        outsDue("tell", x, 2, 0, 7, 1, 7);
        due("element(1, 4)", x.element(1, 4), 3);
        due("about(4)", x.about(4), 7);
        due("about(6)", x.about(6), 5);
        x.close();
        due("tell(9) after the end", x.tell(9), LATE);
        due("tell(10) after the end", x.tell(10), BAD);
        due("tell(0) of a new object", new PathStream().tell(0), LATE);
        for (int far : FAR) {
            due("tell(" + far + ")", x.tell(far), BAD);
        }
    }

    private static void ask() {
        PathStream x = on("D(a(b1)(b");
        due("ask(0, 0)", x.ask(0, 0), BAD);
        due("ask(5, 0)", x.ask(5, 0), BAD);
        due("ask(1, -1)", x.ask(1, -1), BAD);
        due("ask(1, Long.MIN_VALUE)", x.ask(1, Long.MIN_VALUE), BAD);
        due("ask(4, Long.MAX_VALUE)", x.ask(4, Long.MAX_VALUE), BAD);
        due("ask(1, 10000)", x.ask(1, 10000), BAD);
        due("ask(4, 10^16)", x.ask(4, 10_000_000_000_000_000L), BAD);
        due("axis 2", x.ask(2, 20000000), BAD);
        due("test 6", x.ask(2, 6000000), BAD);
        due("condition 16", x.ask(2, 16), BAD);
        due("condition 16 before", x.ask(3, 1600001500L), BAD);
        for (int far : FAR) {
            due("ask(" + far + ", 0)", x.ask(far, 0), BAD);
        }
        due("about(6)", x.about(6), 0);
        due("ask(1, 1107)", x.ask(1, 1107), 0);
        outsDue("emitted when added", x, 0, 1, 5);
        due("peak when added", x.path(0, 4), 1);
        due("ask(1, 1500)", x.ask(1, 1500), 1);
        outsDue("all emitted", x, 1, 0, 5, 1, 5, 2, 5);
        due("peak after emitting", x.path(1, 4), 0);
        due("ask(4, ..)", x.ask(4, 15150100040112L + 1_000_000_000_000_000L), 2);
        due("step(2, 0)", x.step(2, 0), 1015);
        due("step(2, 1)", x.step(2, 1), 1501);
        due("step(2, 2)", x.step(2, 2), 4);
        due("step(2, 3)", x.step(2, 3), 112);
        due("ask(3, 0)", x.ask(3, 0), 3);
        due("path(3, 0)", x.path(3, 0), 3);
        due("ask(1, 1500) twice", x.ask(1, 1500), 4);
        due("ask(1, 1500) as the sixth", x.ask(1, 1500), FULL);
        due("ask(1, 16) as the sixth", x.ask(1, 16), BAD);
        due("about(4)", x.about(4), 5);
        due("about(6)", x.about(6), 5);
        x.tell(1);
        outsDue("after its event", x, 0, 1, 5, 2, 6);
    }

    private static void drop() {
        PathStream x = on("Dq!a.q!a[=1].(a(a1");
        due("drop()", x.drop(), 1);
        due("path(1, 0)", x.path(1, 0), UNKNOWN);
        due("about(6)", x.about(6), 1);
        due("ask(1, 1007)", x.ask(1, 1007), 1);
        due("path(1, 2)", x.path(1, 2), 0);
        due("path(1, 4)", x.path(1, 4), 2);
        due("ask(1, 1200)", x.ask(1, 1200), 2);
        due("path(2, 4)", x.path(2, 4), 0);
        due("drop()", x.drop(), 2);
        due("drop()", x.drop(), 1);
        due("drop()", x.drop(), 0);
        due("drop()", x.drop(), LATE);
        due("about(6)", x.about(6), 6);
        due("about(4)", x.about(4), 3);
    }

    private static void undo() {
        PathStream x = on("Dq!a[=1].(a(a1");
        x.close();
        x.tell(1);
        outsDue("before", x, 0, 0, 5, 1, 5);
        due("undo() of tell", x.undo(), 1);
        outsDue("after undo", x, 0);
        due("element(0, 4)", x.element(0, 4), 0);
        due("undo() of close", x.undo(), 0);
        due("element(1, 3)", x.element(1, 3), 1);
        due("about(2)", x.about(2), 1);
        due("about(4)", x.about(4), 3);
        due("undo()", x.undo(), LATE);
        x.open(0);
        due("peak", x.path(0, 4), 3);
        x.undo();
        due("peak before", x.path(0, 4), 2);
        due("element(2, 0)", x.element(2, 0), UNKNOWN);
        due("element(1, 5)", x.element(1, 5), 0);
        x.ask(1, 1000);
        x.drop();
        x.drop();
        x.undo();
        x.undo();
        due("undo() of drop", x.path(1, 2), 2);
        due("undo() of ask", x.undo(), 0);
        due("about(0)", x.about(0), 1);
        undoOfMany();
    }

    private static void undoOfMany() {
        PathStream x = on("D(a");
        x.see(0, 0);
        for (int i = 0; i < 20; i++) {
            x.tell(i % 10);
        }
        x.seed(4);
        x.keep(0);
        x.write('D');
        x.tell(10);
        for (int i = 13; i >= 0; i--) {
            due("undo()", x.undo(), i);
        }
        due("undo()", x.undo(), LATE);
        due("about(4)", x.about(4), 7);
        due("element(0, 4)", x.element(0, 4), 63);
        due("the text stays", x.about(8), 4);
        due("the random number stays", x.seed(0), 4);
        due("the slot stays", x.again(0), 21);
    }

    private static void within() {
        PathStream x = on("Dq!b.q!*.q/a/b.q!c.q!b[=1].(a(b(b1");
        due("within(0, 1)", x.within(0, 1), 1);
        due("within(1, 0)", x.within(1, 0), 0);
        due("within(2, 0)", x.within(2, 0), 1);
        due("within(0, 2)", x.within(0, 2), 0);
        due("without answers", x.within(3, 2), 1);
        due("within(2, 3)", x.within(2, 3), 0);
        due("within(2, 2)", x.within(2, 2), 1);
        due("doubt does not count", x.within(4, 2), 0);
        due("doubt does not count", x.within(2, 4), 0);
        due("within(0, 5)", x.within(0, 5), UNKNOWN);
        due("within(5, 0)", x.within(5, 0), UNKNOWN);
        for (int far : FAR) {
            due("within(0, " + far + ")", x.within(0, far), UNKNOWN);
            due("within(" + far + ", 0)", x.within(far, 0), UNKNOWN);
        }
    }

    private static void judge() {
        PathStream x = on("Dq!a[=1].q!b.(a(a1)");
        due("all true", x.judge(4, 401_500_602_701L), NONE);
        due("carried out", x.judge(4, 301_402_502_600L), NONE);
        due("emitted by closing", x.judge(4, 200_700_501_600L), NONE);
        due("opened", x.judge(4, 101_411_511_702L), NONE);
        due("not true: answers", x.judge(2, 401_402), 1);
        due("not true: emitted", x.judge(2, 500_501), 1);
        due("not true: buffer", x.judge(2, 602_603), 1);
        due("not true: depth", x.judge(2, 701_702), 1);
        due("no such path", x.judge(1, 420), 0);
        due("no such path", x.judge(1, 520), 0);
        due("no such path", x.judge(1, 620), 0);
        due("not possible: open", x.judge(2, 200_100), 1);
        due("possible: close", x.judge(3, 101_200_200), NONE);
        due("not possible: close", x.judge(3, 200_200_700), 1);
        due("not possible: tell", x.judge(2, 200_301), 1);
        due("no such name", x.judge(1, 105), 0);
        due("1, 1, 0", x.judge(1, 110), 0);
        due("2, 1, 0", x.judge(1, 210), 0);
        due("2, 0, 1", x.judge(1, 201), 0);
        due("3, 1, 1", x.judge(1, 311), 0);
        due("7, 1, 1", x.judge(1, 711), 0);
        due("0, 0, 0", x.judge(1, 0), 0);
        due("leading zeros", x.judge(2, 701), 0);
        due("8, 0, 0", x.judge(1, 800), 0);
        due("9, 0, 0", x.judge(2, 701_900), 1);
        due("judge(0, 0)", x.judge(0, 0), BAD);
        due("judge(5, 0)", x.judge(5, 0), BAD);
        due("judge(1, 1000)", x.judge(1, 1000), BAD);
        due("judge(4, 10^12)", x.judge(4, 1_000_000_000_000L), BAD);
        due("judge(4, 10^12 - 1)", x.judge(4, 999_999_999_999L), 0);
        due("judge(1, -1)", x.judge(1, -1), BAD);
        due("judge(2, Long.MIN_VALUE)", x.judge(2, Long.MIN_VALUE), BAD);
        for (int far : FAR) {
            due("judge(" + far + ", 700)", x.judge(far, 700), BAD);
        }
        due("nothing changed", x.about(4), 4);
        due("nothing changed", x.about(6), 0);
        due("nothing changed", x.path(0, 2), 0);
        due("nothing is open", new PathStream().judge(2, 700_100), NONE);
    }

    private static void see() {
        PathStream x = on("Dq!a.(a");
        due("see(1, 0)", x.see(1, 0), UNKNOWN);
        due("see(1, 21)", x.see(1, 21), UNKNOWN);
        due("see(0, 21)", x.see(0, 21), BAD);
        for (int far : FAR) {
            due("see(" + far + ", 0)", x.see(far, 0), UNKNOWN);
            due("see(0, " + far + ")", x.see(0, far), BAD);
        }
        due("about(7)", x.about(7), 0);
        due("see(0, 0)", x.see(0, 0), 1);
        due("see(0, 20)", x.see(0, 20), 2);
        for (int i = 3; i <= 6; i++) {
            due("see(0, 1)", x.see(0, 1), i);
        }
        due("see(0, 1) as the seventh", x.see(0, 1), FULL);
        due("see(0, 21) as the seventh", x.see(0, 21), BAD);
        due("see(1, 1) as the seventh", x.see(1, 1), UNKNOWN);
        due("about(7)", x.about(7), 6);
        due("about(6)", x.about(6), 0);
    }

    private static void unsee() {
        PathStream x = on("Dq!a.(a");
        due("unsee()", x.unsee(), 0);
        x.see(0, 5);
        x.see(0, 6);
        due("which()", x.which(), 0);
        due("unsee()", x.unsee(), 2);
        due("which()", x.which(), 63);
        due("unsee()", x.unsee(), 0);
        due("see(0, 1)", x.see(0, 1), 1);
    }

    private static void which() {
        PathStream x = on("Dq/a/a.q!c[=1].q!b!e.(a(b1)(b)(c1)(d");
        due("without observations", x.which(), 63);
        x.see(0, 1);
        due("one child", x.which(), 1 << 2 | 1 << 3);
        x.see(1, 1);
        due("the condition stays", x.which(), 1 << 2);
        x.close();
        x.open(2);
        due("by the present elements", x.which(), 0);
        x.undo();
        x.see(2, 0);
        due("the steps before stay", x.which(), 1 << 2);
        x.see(2, 1);
        due("not both", x.which(), 0);
        x.drop();
        due("a path that is gone", x.which(), 1 << 2);
        x.drop();
        due("a path that is gone", x.which(), 1 << 2 | 1 << 3);
        x.drop();
        due("all paths are gone", x.which(), 63);
        due("about(7)", x.about(7), 4);
        PathStream y = on("Dq!a.(a(b");
        y.see(0, 2);
        due("any name", y.which(), 1 << 5);
        y.unsee();
        y.see(0, 0);
        due("no answers", y.which(), 1 << 2 | 1 << 3 | 1 << 4);
        due("step(0, 0) stays", y.step(0, 0), 1000);
    }

    private static void shareDue(PathStream x, int path, int upper, int lower) {
        due("share(" + path + ", true)", x.share(path, true), upper);
        due("share(" + path + ", false)", x.share(path, false), lower);
    }

    private static void share() {
        PathStream x = on("Dq!a.q!a.q!a.q!a.q!a.(a");
        for (int p = 0; p < 5; p++) {
            shareDue(x, p, 1, 5);
        }
        x.drop();
        shareDue(x, 0, 1, 4);
        PathStream y = on("Dq!*.q!a.q!b.q/a.q!e.(a(b)(a(b)(c))");
        shareDue(y, 0, 17, 6);
        shareDue(y, 1, 5, 6);
        shareDue(y, 2, 1, 1);
        shareDue(y, 3, 1, 3);
        shareDue(y, 4, 0, 1);
        due("share(5, true)", y.share(5, true), UNKNOWN);
        due("share(5, false)", y.share(5, false), UNKNOWN);
        for (int far : FAR) {
            due("share(" + far + ", true)", y.share(far, true), UNKNOWN);
        }
        shareDue(on("Dq!a[b].(a"), 0, 0, 1);
    }

    private static void chanceDue(PathStream x, int v, int lost, int upper, int lower) {
        due("chance(" + v + ", " + lost + ", true)", x.chance(v, lost, true), upper);
        due("chance(" + v + ", " + lost + ", false)", x.chance(v, lost, false), lower);
    }

    private static void chance() {
        PathStream x = on("Dq!a.q!b.(a(b)(b)");
        chanceDue(x, 0, 10, 1, 1);
        chanceDue(x, 1, 10, 0, 1);
        chanceDue(x, 1, 3, 91, 100);
        chanceDue(x, 2, 3, 7, 10);
        chanceDue(x, 3, 3, 49, 100);
        chanceDue(x, 3, 0, 1, 1);
        chanceDue(x, 4, 0, 0, 1);
        chanceDue(x, 20, 5, 0, 1);
        chanceDue(on("Dq/a.q/a.q/a.q/a.q/a.(a"), 1, 5, 31, 32);
        chanceDue(on("Dq/a.q/a.q/a.q/a.q/a.(a"), 1, 7, 100000 - 16807, 100000);
        chanceDue(new PathStream(), 0, 5, 1, 1);
        chanceDue(new PathStream(), 1, 5, 0, 1);
        due("chance(21, 0, true)", x.chance(21, 0, true), BAD);
        due("chance(0, 11, false)", x.chance(0, 11, false), BAD);
        for (int far : FAR) {
            due("chance(" + far + ", 0, true)", x.chance(far, 0, true), BAD);
            due("chance(0, " + far + ", true)", x.chance(0, far, true), BAD);
        }
    }

    private static void seed() {
        PathStream x = new PathStream();
        due("seed(5)", x.seed(5), 0);
        due("seed(MIN)", x.seed(Long.MIN_VALUE), 5);
        due("seed(MAX)", x.seed(Long.MAX_VALUE), Long.MIN_VALUE);
        due("seed(0)", x.seed(0), Long.MAX_VALUE);
        x.drawn(1);
        due("seed(0) after a draw", x.seed(0), 1442695040888963407L);
        due("about(6)", x.about(6), 0);
    }

    /** The events of a draw, done on another object with the calls that change it. */
    private static int drawnBySteps(String task, long from, int m) {
        PathStream y = on(task);
        long x = from;
        for (int i = 0; i < m; i++) {
            x = x * 6364136223846793005L + 1442695040888963407L;
            int v = (int) (x >>> 33);
            if (v % 8 <= 3) {
                y.open(v / 8 % 5);
            } else if (v % 8 <= 5) {
                y.close();
            } else {
                y.tell(v / 8 % 10);
            }
        }
        due("seed after " + m + " draws", drawnSeed(task, from, m), x);
        int sum = 0;
        for (int p = 0; p < y.about(0); p++) {
            sum += y.path(p, 1);
        }
        return sum;
    }

    private static long drawnSeed(String task, long from, int m) {
        PathStream x = on(task);
        x.seed(from);
        x.drawn(m);
        return x.seed(0);
    }

    private static void drawn() {
        String task = "Dq!*.q!a[b].q!*[=1]!*.(a(b(a";
        for (int s = 0; s < 200; s++) {
            PathStream x = on(task);
            long from = s * 1_000_003L * 1_000_000_007L;
            int m = 1 + s % 30;
            x.seed(from);
            due("drawn(" + m + ")", x.drawn(m), drawnBySteps(task, from, m));
            due("about(1)", x.about(1), 3);
            due("about(4)", x.about(4), 3);
            due("about(6)", x.about(6), 0);
            due("path(0, 2)", x.path(0, 2), 3);
        }
        PathStream x = on("Dq!*.(a)");
        due("drawn(30) after the end", x.drawn(30), 1);
        PathStream y = on("Dq!*.q!*.q!*.q!*.q!*.(a");
        y.open(1);
        y.close();
        y.close();
        due("drawn(30) from the present state", y.drawn(30), 10);
        x.seed(77);
        due("drawn(0)", x.drawn(0), BAD);
        due("drawn(31)", x.drawn(31), BAD);
        for (int far : FAR) {
            due("drawn(" + far + ")", x.drawn(far), BAD);
        }
        due("seed(0)", x.seed(0), 77);
    }

    private static void keep() {
        PathStream x = on("Dq!a[=1].(a(a1");
        due("keep(2)", x.keep(2), UNKNOWN);
        for (int far : FAR) {
            due("keep(" + far + ")", x.keep(far), UNKNOWN);
        }
        due("keep(0)", x.keep(0), 3);
        due("again(1)", x.again(1), LATE);
        x.tell(1);
        due("keep(1)", x.keep(1), 4);
        due("about(6)", x.about(6), 1);
        x.close();
        due("again(0)", x.again(0), 3);
        due("again(1)", x.again(1), 4);
        x.close();
        due("keep(0) in place", x.keep(0), 5);
        x.close();
        due("again(0)", x.again(0), 5);
    }

    private static void again() {
        PathStream x = on("Dq!a[=1].(a(a1");
        x.see(0, 3);
        x.keep(1);
        x.open(0);
        x.open(1);
        x.close();
        x.close();
        x.close();
        x.tell(1);
        x.ask(1, 1500);
        x.seed(6);
        x.write('x');
        x.unsee();
        outsDue("before", x, 0, 0, 9, 1, 9);
        due("again(1)", x.again(1), 3);
        due("about(0)", x.about(0), 1);
        due("about(1)", x.about(1), 2);
        due("about(2)", x.about(2), 1);
        due("about(4)", x.about(4), 3);
        due("about(6)", x.about(6), 0);
        due("undo()", x.undo(), LATE);
        outsDue("after", x, 0);
        due("path(0, 4)", x.path(0, 4), 2);
        due("the text stays", x.about(8), 15);
        due("the observations stay", x.about(7), 0);
        due("the random number stays", x.seed(0), 6);
        x.close();
        x.close();
        due("again(1) keeps it", x.again(1), 3);
        x.tell(2);
        due("again(1) keeps it", x.again(1), 3);
        due("element(1, 4)", x.element(1, 4), 2);
        due("again(0)", x.again(0), LATE);
        due("again(2)", x.again(2), UNKNOWN);
        for (int far : FAR) {
            due("again(" + far + ")", x.again(far), UNKNOWN);
        }
    }

    private static void run(int number) {
        promise = number;
        switch (number) {
            case 1: newObject(); break;
            case 2: write(); break;
            case 3: wipe(); break;
            case 4: faultOfPaths(); faultOfEvents(); break;
            case 5: task(); break;
            case 6: about(); break;
            case 7: element(); break;
            case 8: path(); break;
            case 9: step(); break;
            case 10: isAnswer(); break;
            case 11: ends(); break;
            case 12: out(); break;
            case 13: open(); break;
            case 14: close(); break;
            case 15: tell(); break;
            case 16: ask(); break;
            case 17: drop(); break;
            case 18: undo(); break;
            case 19: within(); break;
            case 20: judge(); break;
            case 21: see(); break;
            case 22: unsee(); break;
            case 23: which(); break;
            case 24: share(); break;
            case 25: chance(); break;
            case 26: seed(); break;
            case 27: drawn(); break;
            case 28: keep(); break;
            default: again(); break;
        }
    }

    public static void main(String[] args) {
        for (int number = 1; number <= 29; number++) {
            run(number);
        }
        System.out.println(checks + " answers, " + wrong + " of them not as due");
        if (wrong != 0) {
            System.exit(1);
        }
    }
}
