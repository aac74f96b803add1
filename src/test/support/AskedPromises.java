import java.util.function.ToLongFunction;

/** The sentences of the promises 19 to 23: comparing, judging, observations. */
final class AskedPromises {
    private static final int UNKNOWN = Checks.UNKNOWN, BAD = Checks.BAD, FULL = Checks.FULL, NONE = Checks.NONE;

    private AskedPromises() {
    }

    static void run() {
        within();
        judge();
        judgeStatements();
        judgePaths();
        judgeArguments();
        judgeAnswer();
        see();
        unsee();
        which();
        whichWithoutPath();
    }

    private static void changesNothing(String call, ToLongFunction<PathStream> act) {
        Checks.sameDue(call + " changes nothing", () -> {
            PathStream x = States.ordinary();
            act.applyAsLong(x);
            return x;
        }, States::ordinary);
    }

    private static void within() {
        Checks.sentence("Promise 19", "Tells whether each answer of a path is an answer of another path, too.");
        PathStream x = Checks.on("Dq!b.q!*.q/a/b.q!c.q!b[=1].(a(b(b1");
        int[][] want = {{1, 1, 0, 0, 0}, {0, 1, 0, 0, 0}, {1, 1, 1, 0, 0}, {1, 1, 1, 1, 1}, {1, 1, 0, 0, 1}};
        for (int one = 0; one < 5; one++) {
            for (int other = 0; other < 5; other++) {
                Checks.due("within(" + one + ", " + other + ")", x.within(one, other), want[one][other]);
            }
        }
        Checks.sentence("Promise 19", "number of the first path");
        Checks.due("within(5, 0)", x.within(5, 0), UNKNOWN);
        Checks.sentence("Promise 19", "number of the second path");
        Checks.due("within(0, 5)", x.within(0, 5), UNKNOWN);
        Checks.sentence("Promise 19", "Returns 1 if this is so for all answers of the first path, otherwise 0; UNKNOWN if"
            + " there is no such path.");
        Checks.due("no answers in no answers", Checks.on("Dq!b.q!c.(a").within(0, 1), 1);
        Checks.due("no elements", Checks.on("Dq!b.q!c.").within(0, 1), 1);
        Checks.due("itself", x.within(2, 2), 1);
        Checks.due("answers that wait count", Checks.on("Dq!*[=1].q!b.(a(b1").within(0, 1), 1);
        Checks.due("answers that wait count", Checks.on("Dq!*[=1].q!b.(a(b1").within(1, 0), 1);
        Checks.due("the last element alone fails", Checks.on("Dq!b.q!b[=1].(a(b1)(b1)(b)").within(0, 1), 0);
        Checks.due("within(5, 5)", x.within(5, 5), UNKNOWN);
        Checks.due("within(0, 0) of none", new PathStream().within(0, 0), UNKNOWN);
        for (int far : Checks.FAR) {
            Checks.due("within(" + far + ", 0)", x.within(far, 0), UNKNOWN);
            Checks.due("within(0, " + far + ")", x.within(0, far), UNKNOWN);
        }
        PathStream wide = Checks.on("Dq!b[=0].q!b.(a" + "(b)".repeat(18) + "(b0");
        Checks.due("element 19 alone", wide.within(0, 1), 1);
        Checks.due("element 19 alone", wide.within(1, 0), 0);
    }

    private static void judge() {
        Checks.sentence("Promise 20", "Checks a sequence of statements, one after the other; it changes nothing.");
        PathStream x = Checks.on("Dq!a[=1].(a(a1)");
        Checks.due("closes and looks", x.judge(3, 200_501_700), NONE);
        Checks.due("gives a digit and looks", x.judge(3, 301_502_701), NONE);
        Checks.due("the same again", x.judge(3, 200_501_700), NONE);
        Checks.due("opens, gives a digit", x.judge(3, 100_301_402), NONE);
        Checks.due("opens, without the digit before", x.judge(2, 100_401), NONE);
        Checks.due("about(6)", x.about(6), 0);
        changesNothing("judge(4, 101200301700)", y -> y.judge(4, 101_200_301_700L));
        changesNothing("judge(4, 101101101101)", y -> y.judge(4, 101_101_101_101L));
        changesNothing("judge(3, 200200105)", y -> y.judge(3, 200_200_105));
        Checks.sentence("Promise 20", "Each statement has three digits.");
        Checks.due("judge(2, 701402)", x.judge(2, 701_402), 1);
        Checks.due("judge(2, 701401)", x.judge(2, 701_401), NONE);
        Checks.due("judge(1, 701402)", x.judge(1, 701_402), BAD);
        Checks.sentence("Promise 20", "Statements 1 to 3 are carried out (for the following statements), the others are"
            + " compared with the state then:");
        Checks.due("before and after", x.judge(3, 401_301_402), NONE);
        Checks.due("before", x.judge(2, 402_301), 0);
        Checks.due("only before", x.judge(3, 401_301_401), 2);
        Checks.due("several are carried out", x.judge(4, 100_301_200_402L), NONE);
        Checks.due("closed, so not possible", x.judge(2, 200_301), 1);
    }

    private static void judgeStatements() {
        PathStream x = Checks.on("Dq!b.(a");
        Checks.sentence("Promise 20", "1, 0, name: opens an element;");
        for (int name = 0; name < 10; name++) {
            Checks.due("judge(1, 10" + name + ")", x.judge(1, 100 + name), name <= 4 ? NONE : 0);
            int opened = name == 1 ? 401 : 400;
            Checks.due("with its name", x.judge(2, (100 + name) * 1000 + opened), name <= 4 ? NONE : 0);
        }
        Checks.due("judge(1, 110)", x.judge(1, 110), 0);
        Checks.due("judge(1, 190)", x.judge(1, 190), 0);
        Checks.due("at depth 8", States.deep().judge(1, 100), 0);
        Checks.due("when full", States.wide().judge(1, 100), 0);
        Checks.due("at the end", States.ended().judge(1, 100), 0);
        Checks.due("of none", new PathStream().judge(2, 104_701), NONE);
        Checks.sentence("Promise 20", "2, 0, 0: closes the current element;");
        Checks.due("judge(2, 200700)", x.judge(2, 200_700), NONE);
        Checks.due("judge(2, 200200)", x.judge(2, 200_200), 1);
        Checks.due("judge(1, 201)", x.judge(1, 201), 0);
        Checks.due("judge(1, 210)", x.judge(1, 210), 0);
        Checks.due("of none", new PathStream().judge(1, 200), 0);
        Checks.sentence("Promise 20", "3, 0, f: gives the digit f to the current element;");
        for (int figure = 0; figure < 10; figure++) {
            PathStream y = Checks.on("D(a");
            y.ask(1, 6 + figure);
            Checks.due("judge(2, 30" + figure + "401)", y.judge(2, 300_401 + 1000 * figure), NONE);
            Checks.due("another digit", y.judge(2, 300_401 + 1000 * ((figure + 1) % 10)), 1);
        }
        Checks.due("judge(1, 310)", x.judge(1, 310), 0);
        Checks.due("at the end", States.ended().judge(1, 300), 0);
        Checks.due("of none", new PathStream().judge(1, 300), 0);
    }

    private static void judgePaths() {
        PathStream x = Checks.on("Dq!*[=1].q!b.(a(b1)(b1)(b");
        Checks.sentence("Promise 20", "4, path, v: the path has v answers;");
        thirdDue(x, 400, 2);
        thirdDue(x, 410, 3);
        thirdDue(x, 420, NONE);
        Checks.sentence("Promise 20", "5, path, v: v answers of the path are emitted;");
        thirdDue(x, 500, 0);
        thirdDue(x, 510, 3);
        thirdDue(x, 520, NONE);
        Checks.due("emitted by a statement", x.judge(3, 200_200_502), NONE);
        Checks.sentence("Promise 20", "6, path, v: the buffer of the path has the size v;");
        thirdDue(x, 600, 4);
        thirdDue(x, 610, 0);
        thirdDue(x, 620, NONE);
        Checks.due("emptied by a statement", x.judge(3, 200_200_600), NONE);
        Checks.sentence("Promise 20", "7, 0, d: the depth of the current element is d (0: no element is open).");
        thirdDue(x, 700, 2);
        thirdDue(x, 710, NONE);
        thirdDue(States.deep(), 700, 8);
        thirdDue(States.ended(), 700, 0);
        thirdDue(new PathStream(), 700, 0);
        PathStream many = Checks.on("Dq!b.(a" + "(b)".repeat(10));
        thirdDue(many, 400, NONE);
        for (int path = 2; path < 10; path++) {
            thirdDue(x, 400 + 10 * path, NONE);
            thirdDue(x, 500 + 10 * path, NONE);
            thirdDue(x, 600 + 10 * path, NONE);
        }
    }

    /** Only with the digit that is due (NONE for no digit at all), the statement is true. */
    private static void thirdDue(PathStream x, int statement, int third) {
        for (int digit = 0; digit < 10; digit++) {
            int row = statement + digit;
            Checks.due("judge(1, " + row + ")", x.judge(1, row), digit == third ? NONE : 0);
        }
    }

    private static void judgeArguments() {
        Checks.sentence("Promise 20", "number of statements, 1 to 4");
        PathStream x = Checks.on("Dq!*.(a");
        long row = 0;
        for (int n = 1; n <= 4; n++) {
            row = row * 1000 + 701;
            Checks.due("judge(" + n + ", ..)", x.judge(n, row), NONE);
        }
        Checks.due("judge(0, 0)", x.judge(0, 0), BAD);
        Checks.due("judge(5, ..)", x.judge(5, row), BAD);
        Checks.sentence("Promise 20", "their digits as a decimal number, the digits of the first statement being the highest"
            + " (leading zeros may be missing)");
        Checks.due("the first first", x.judge(4, 300_700_701_701L), 1);
        Checks.due("the first first", x.judge(4, 701_701_700_300L), 2);
        Checks.due("judge(4, 701): 000 first", x.judge(4, 701), 0);
        Checks.due("judge(1, 1): 001", x.judge(1, 1), 0);
        Checks.due("judge(2, 1701): 001 first", x.judge(2, 1701), 0);
        Checks.due("judge(1, 0): 000", x.judge(1, 0), 0);
    }

    private static void judgeAnswer() {
        Checks.sentence("Promise 20", "Returns the index, from 0, of the first statement that is not as described, not"
            + " possible or not true; NONE if there is none; BAD if n is out of range, or row is negative or has more than"
            + " 3 * n digits.");
        PathStream x = Checks.on("Dq!*.(a");
        long[] wrong = {0, 800, 900, 110, 105, 201, 310, 711, 200_200 % 1000 + 1, 700, 702, 402, 411, 502, 601, 999};
        for (long statement : wrong) {
            long row = statement;
            long places = 1;
            for (int index = 0; index < 4; index++) {
                Checks.due("index " + index + " of " + statement, x.judge(index + 1, row), index);
                places *= 1000;
                row += 701 * places;
            }
        }
        Checks.due("the first of two", x.judge(4, 701_700_800_701L), 1);
        Checks.due("not possible after what was possible", x.judge(3, 200_700_200), 2);
        long places = 1;
        for (int n = 1; n <= 4; n++) {
            places *= 1000;
            Checks.due("all nines", x.judge(n, places - 1), 0);
            Checks.due("too many digits", x.judge(n, places), BAD);
            Checks.due("too many digits", x.judge(n, places + 701), BAD);
            Checks.due("negative", x.judge(n, -1), BAD);
            Checks.due("negative", x.judge(n, -701), BAD);
            Checks.due("least", x.judge(n, Long.MIN_VALUE), BAD);
            Checks.due("greatest", x.judge(n, Long.MAX_VALUE), BAD);
        }
        for (int far : Checks.FAR) {
            Checks.due("judge(" + far + ", 701)", x.judge(far, 701), BAD);
        }
    }

    private static void see() {
        Checks.sentence("Promise 21", "Adds an observation: if the test of the last step of a path were an unknown one instead"
            + " (the same in all observations; axis and condition stay), the path would have v answers.");
        PathStream x = Checks.on("Dq!a/a.q/a!b[=1].(a(b1)(c(b1)(d)))");
        x.see(0, 1);
        Checks.due("the last step alone, its axis stays", x.which(), 1 << 1 | 1 << 2);
        x.see(1, 2);
        Checks.due("the same in both, its condition stays", x.which(), 1 << 1);
        Checks.due("step(0, 1) stays", x.step(0, 1), 0);
        Checks.due("path(0, 1) stays", x.path(0, 1), 0);
        Checks.sentence("Promise 21", "There are at most 6.");
        PathStream y = Checks.on("Dq!a.");
        for (int i = 1; i <= 6; i++) {
            Checks.due("see(0, 0)", y.see(0, 0), i);
        }
        Checks.due("see(0, 0) as the seventh", y.see(0, 0), FULL);
        Checks.due("about(7)", y.about(7), 6);
        Checks.sentence("Promise 21", "number of the path");
        Checks.due("see(1, 0)", y.see(1, 0), UNKNOWN);
        Checks.due("see(4, 0) of 5", Checks.on("D" + "q/a.".repeat(5)).see(4, 0), 1);
        Checks.due("see(5, 0) of 5", Checks.on("D" + "q/a.".repeat(5)).see(5, 0), UNKNOWN);
        Checks.sentence("Promise 21", "0 to 20");
        for (int v = -1; v <= 21; v++) {
            Checks.due("see(0, " + v + ")", Checks.on("Dq!a.").see(0, v), v < 0 || v > 20 ? BAD : 1);
        }
        PathStream twenty = Checks.on("Dq!a.(a" + "(a)".repeat(19));
        twenty.see(0, 20);
        Checks.due("which() of 20 answers", twenty.which(), 1 | 1 << 5);
        Checks.sentence("Promise 21", "Returns the number of observations; UNKNOWN if there is no such path; BAD if v is out of"
            + " range; FULL if there are 6.");
        Checks.due("see(1, 21) as the seventh", y.see(1, 21), UNKNOWN);
        Checks.due("see(0, 21) as the seventh", y.see(0, 21), BAD);
        Checks.due("see(0, 20) as the seventh", y.see(0, 20), FULL);
        for (int far : Checks.FAR) {
            Checks.due("see(" + far + ", 0)", x.see(far, 0), UNKNOWN);
            Checks.due("see(0, " + far + ")", x.see(0, far), BAD);
        }
        Checks.due("see(0, 0)", x.see(0, 0), 3);
    }

    private static void unsee() {
        Checks.sentence("Promise 22", "Removes all observations.");
        PathStream x = Checks.on("Dq!a.");
        for (int i = 0; i < 6; i++) {
            x.see(0, 1);
        }
        Checks.due("which()", x.which(), 0);
        Checks.due("unsee()", x.unsee(), 6);
        Checks.due("about(7)", x.about(7), 0);
        Checks.due("which()", x.which(), 63);
        for (int i = 1; i <= 6; i++) {
            Checks.due("see(0, 0) anew", x.see(0, 0), i);
        }
        Checks.due("which()", x.which(), 63);
        Checks.sentence("Promise 22", "Returns how many there were.");
        Checks.due("unsee() of 6", x.unsee(), 6);
        Checks.due("unsee() of none", x.unsee(), 0);
        x.see(0, 3);
        Checks.due("unsee() of one", x.unsee(), 1);
        Checks.due("unsee() of a new object", new PathStream().unsee(), 0);
    }

    private static void which() {
        Checks.sentence("Promise 23", "Returns the tests, 0 to 5, for which all observations are true by the present elements"
            + " and paths.");
        PathStream x = Checks.on("Dq!a.q/a/b.(a(b)(c)");
        x.see(0, 1);
        Checks.due("one element", x.which(), 1 | 1 << 1 | 1 << 2);
        x.open(3);
        Checks.due("by the present elements", x.which(), 1 | 1 << 1 | 1 << 2 | 1 << 3);
        x.see(1, 0);
        Checks.due("both observations", x.which(), 1);
        x.see(1, 3);
        Checks.due("observations that exclude each other", x.which(), 0);
        PathStream y = Checks.on("Dq!a[=1].(a(b1)");
        y.see(0, 0);
        Checks.due("elements in doubt are no answers", y.which(), 1 | 1 << 2 | 1 << 3 | 1 << 4);
        PathStream z = Checks.on("Dq/a.(a");
        z.see(0, 1);
        Checks.due("a single step", z.which(), 1 | 1 << 5);
        z.drop();
        z.ask(1, 1107);
        Checks.due("by the present path of this number", z.which(), 0);
        changesNothing("which()", PathStream::which);
        Checks.sentence("Promise 23", "Returns the set of these tests.");
        Checks.due("without observations", Checks.on("Dq/a.(a").which(), 63);
        PathStream none = Checks.on("Dq!b.");
        none.see(0, 0);
        Checks.due("without elements", none.which(), 63);
        none.see(0, 1);
        Checks.due("no test", none.which(), 0);
    }

    private static void whichWithoutPath() {
        Checks.sentence("Promise 23", "(An observation about a path that does not exist any more is ignored.)");
        PathStream x = Checks.on("Dq!a.q!a.(a");
        x.see(1, 20);
        x.see(0, 1);
        Checks.due("both paths", x.which(), 0);
        x.drop();
        Checks.due("path 1 is dropped", x.which(), 1 | 1 << 5);
        x.drop();
        Checks.due("both are dropped", x.which(), 63);
        Checks.due("about(7)", x.about(7), 2);
        x.undo();
        Checks.due("path 0 is back", x.which(), 1 | 1 << 5);
        x.undo();
        Checks.due("path 1 is back", x.which(), 0);
        Checks.put(x, "D(a").task();
        Checks.due("a task without paths", x.which(), 63);
    }
}
