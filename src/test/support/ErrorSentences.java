import java.lang.reflect.Method;
import java.lang.reflect.Modifier;
import java.util.Arrays;
import java.util.function.Supplier;

/** The sentences of "Errors". */
final class ErrorSentences {
    private static final int UNKNOWN = Checks.UNKNOWN, BAD = Checks.BAD, LATE = Checks.LATE, FULL = Checks.FULL;

    private ErrorSentences() {
    }

    static void run() {
        unknown();
        bad();
        late();
        full();
        order();
        changesNothing();
        none();
        sets();
        fractions();
        face();
    }

    private static void says(String words) {
        Checks.sentence("Errors", words);
    }

    private static void unknown() {
        says("UNKNOWN (-1): there is no such element, path, step or slot.");
        Checks.due("PathStream.UNKNOWN", PathStream.UNKNOWN, -1);
        PathStream x = Checks.on("Dq!a.(a");
        Checks.due("element(1, 0)", x.element(1, 0), -1);
        Checks.due("path(1, 0)", x.path(1, 0), -1);
        Checks.due("step(0, 1)", x.step(0, 1), -1);
        Checks.due("keep(2)", x.keep(2), -1);
    }

    private static void bad() {
        says("BAD (-2): another argument is out of its range.");
        Checks.due("PathStream.BAD", PathStream.BAD, -2);
        Checks.due("about(9)", new PathStream().about(9), -2);
        Checks.due("write(256)", new PathStream().write(256), -2);
    }

    private static void late() {
        says("LATE (-3): the call is not possible now.");
        Checks.due("PathStream.LATE", PathStream.LATE, -3);
        Checks.due("close()", new PathStream().close(), -3);
        Checks.due("undo()", new PathStream().undo(), -3);
    }

    private static void full() {
        says("FULL (-4): there is no room.");
        Checks.due("PathStream.FULL", PathStream.FULL, -4);
        Checks.due("open(0)", States.wide().open(0), -4);
        Checks.due("write(0)", States.wide().write(0), -4);
        Checks.due("ask(1, 0)", States.wide().ask(1, 0), -4);
        Checks.due("see(0, 0)", States.wide().see(0, 0), -4);
    }

    private static void order() {
        says("Each method names its errors in the order in which they are checked, and the first one that applies is"
            + " returned.");
        for (int far : Checks.FAR) {
            int code = far >= 0 && far <= 255 ? 256 : far;
            Checks.due("write when full", States.deep().write(code), BAD);
            Checks.due("element", States.deep().element(far, far), UNKNOWN);
            Checks.due("path", States.deep().path(far, far), UNKNOWN);
            Checks.due("out", States.deep().out(far, far, true), UNKNOWN);
            Checks.due("open at depth 8 and when full", States.deep().open(far), BAD);
            Checks.due("open when full", States.wide().open(far), BAD);
            Checks.due("open at the end", States.ended().open(far), BAD);
            Checks.due("tell at the end", States.ended().tell(far), BAD);
            Checks.due("ask when full", States.deep().ask(far, 0), BAD);
            Checks.due("see when full", States.deep().see(far, far), UNKNOWN);
            Checks.due("see when full", States.deep().see(0, far), BAD);
            Checks.due("again", new PathStream().again(far), UNKNOWN);
        }
        Checks.due("element(20, 6)", States.deep().element(20, 6), UNKNOWN);
        Checks.due("path(5, 7)", States.deep().path(5, 7), UNKNOWN);
        Checks.due("open(5) at depth 8", States.deep().open(5), BAD);
        Checks.due("open(0) at depth 8 and when full", States.deep().open(0), LATE);
        Checks.due("open(0) at the end and when full", States.endedFull().open(0), LATE);
        Checks.due("open(5) at the end and when full", States.endedFull().open(5), BAD);
        Checks.due("tell(10) at the end", States.endedFull().tell(10), BAD);
        Checks.due("ask(1, 16) when full", States.deep().ask(1, 16), BAD);
        Checks.due("see(5, 21) when full", States.deep().see(5, 21), UNKNOWN);
        Checks.due("see(4, 21) when full", States.deep().see(4, 21), BAD);
        Checks.due("see(5, 20) when full", States.deep().see(5, 20), UNKNOWN);
        Checks.due("again(2) of empty slots", new PathStream().again(2), UNKNOWN);
    }

    private static void changesNothing() {
        says("A call that returns an error changes nothing.");
        badArguments("new", PathStream::new, 0, 0);
        badArguments("ordinary", States::ordinary, 4, 2);
        badArguments("deep", States::deep, 20, 5);
        badArguments("ended", States::ended, 2, 0);
        notPossible();
        noRoom();
    }

    private static void badArguments(String told, Supplier<PathStream> made, int elements, int paths) {
        String at = told + ": ";
        for (int end : new int[] {-1, 256}) {
            Checks.refusedDue(at + "write", made, x -> x.write(end), BAD);
        }
        for (int end : new int[] {-1, 9}) {
            Checks.refusedDue(at + "about", made, x -> x.about(end), BAD);
        }
        for (int end : new int[] {-1, elements}) {
            Checks.refusedDue(at + "element", made, x -> x.element(end, 0), UNKNOWN);
            Checks.refusedDue(at + "is", made, x -> x.is(0, end), UNKNOWN);
            Checks.refusedDue(at + "ends", made, x -> x.ends(0, end), UNKNOWN);
        }
        for (int end : new int[] {-1, paths}) {
            badPath(at, made, end);
        }
        badNumbers(at, made);
        for (int end : new int[] {-1, 2}) {
            Checks.refusedDue(at + "keep", made, x -> x.keep(end), UNKNOWN);
            Checks.refusedDue(at + "again", made, x -> x.again(end), UNKNOWN);
        }
    }

    private static void badPath(String at, Supplier<PathStream> made, int path) {
        Checks.refusedDue(at + "path", made, x -> x.path(path, 0), UNKNOWN);
        Checks.refusedDue(at + "step", made, x -> x.step(path, 0), UNKNOWN);
        Checks.refusedDue(at + "is", made, x -> x.is(path, 0), UNKNOWN);
        Checks.refusedDue(at + "ends", made, x -> x.ends(path, 0), UNKNOWN);
        Checks.refusedDue(at + "out", made, x -> x.out(path, 0, true), UNKNOWN);
        Checks.refusedDue(at + "within", made, x -> x.within(path, 0), UNKNOWN);
        Checks.refusedDue(at + "within", made, x -> x.within(0, path), UNKNOWN);
        Checks.refusedDue(at + "see", made, x -> x.see(path, 0), UNKNOWN);
        Checks.refusedDue(at + "share", made, x -> x.share(path, true), UNKNOWN);
    }

    private static void badNumbers(String at, Supplier<PathStream> made) {
        for (int end : new int[] {-1, 5}) {
            Checks.refusedDue(at + "open", made, x -> x.open(end), BAD);
        }
        for (int end : new int[] {-1, 10}) {
            Checks.refusedDue(at + "tell", made, x -> x.tell(end), BAD);
        }
        for (int end : new int[] {0, 5}) {
            Checks.refusedDue(at + "ask", made, x -> x.ask(end, 0), BAD);
            Checks.refusedDue(at + "judge", made, x -> x.judge(end, 700), BAD);
        }
        for (long steps : new long[] {-1, 10000, 16, 600, 2000, Long.MIN_VALUE, Long.MAX_VALUE}) {
            Checks.refusedDue(at + "ask(1, " + steps + ")", made, x -> x.ask(1, steps), BAD);
        }
        for (long row : new long[] {-1, 1000, Long.MIN_VALUE, Long.MAX_VALUE}) {
            Checks.refusedDue(at + "judge(1, " + row + ")", made, x -> x.judge(1, row), BAD);
        }
        for (int end : new int[] {-1, 21}) {
            Checks.refusedDue(at + "chance", made, x -> x.chance(end, 0, true), BAD);
        }
        for (int end : new int[] {-1, 11}) {
            Checks.refusedDue(at + "chance", made, x -> x.chance(0, end, true), BAD);
        }
        for (int end : new int[] {0, 31}) {
            Checks.refusedDue(at + "drawn", made, x -> x.drawn(end), BAD);
        }
    }

    private static void notPossible() {
        Checks.refusedDue("task() of an empty text", PathStream::new, PathStream::task, LATE);
        Checks.refusedDue("task() of no task", States::ordinary, PathStream::task, LATE);
        Checks.refusedDue("task() of no task", States::deep, PathStream::task, LATE);
        Checks.refusedDue("task() of no task", States::ended, PathStream::task, LATE);
        Checks.refusedDue("close() of none", PathStream::new, PathStream::close, LATE);
        Checks.refusedDue("close() at the end", States::ended, PathStream::close, LATE);
        Checks.refusedDue("tell(0) of none", PathStream::new, x -> x.tell(0), LATE);
        Checks.refusedDue("tell(0) at the end", States::ended, x -> x.tell(0), LATE);
        Checks.refusedDue("open(0) at the end", States::ended, x -> x.open(0), LATE);
        Checks.refusedDue("open(0) at depth 8", States::deep, x -> x.open(0), LATE);
        Checks.refusedDue("drop() of none", PathStream::new, PathStream::drop, LATE);
        Checks.refusedDue("drop() of none", States::ended, PathStream::drop, LATE);
        Checks.refusedDue("undo() of none", PathStream::new, PathStream::undo, LATE);
        Checks.refusedDue("undo() of none", States::ended, PathStream::undo, LATE);
        Checks.refusedDue("again(0) of an empty slot", States::ended, x -> x.again(0), LATE);
        Checks.refusedDue("again(1) of an empty slot", States::ordinary, x -> x.again(1), LATE);
        Checks.refusedDue("element(0, 6)", States::ordinary, x -> x.element(0, 6), BAD);
        Checks.refusedDue("path(0, 7)", States::ordinary, x -> x.path(0, 7), BAD);
        Checks.refusedDue("see(0, 21)", States::ordinary, x -> x.see(0, 21), BAD);
        Checks.refusedDue("see(0, -1)", States::ordinary, x -> x.see(0, -1), BAD);
        Checks.refusedDue("step(0, 1)", States::ordinary, x -> x.step(0, 1), UNKNOWN);
    }

    private static void noRoom() {
        Checks.refusedDue("write('D') when full", States::deep, x -> x.write('D'), FULL);
        Checks.refusedDue("open(0) when full", States::wide, x -> x.open(0), FULL);
        Checks.refusedDue("ask(1, 0) when full", States::deep, x -> x.ask(1, 0), FULL);
        Checks.refusedDue("see(0, 0) when full", States::deep, x -> x.see(0, 0), FULL);
    }

    private static void none() {
        says("NONE (-9) stands for \"none\"; it is returned only if no error applies.");
        Checks.due("PathStream.NONE", PathStream.NONE, -9);
        PathStream x = Checks.on("Dq!b.(a");
        Checks.due("out(0, 0, true)", x.out(0, 0, true), -9);
        Checks.due("out(1, 0, true)", x.out(1, 0, true), UNKNOWN);
        Checks.due("out(1, 99, false)", x.out(1, 99, false), UNKNOWN);
        Checks.due("element(0, 1)", x.element(0, 1), -9);
        Checks.due("element(1, 1)", x.element(1, 1), UNKNOWN);
        Checks.due("about(2)", new PathStream().about(2), -9);
        Checks.due("fault()", x.fault(), -9);
        Checks.due("judge(1, 701)", x.judge(1, 701), -9);
        Checks.due("judge(1, 1701)", x.judge(1, 1701), BAD);
    }

    private static void sets() {
        says("Sets are bit masks.");
        PathStream x = Checks.on("Dq!a!*.q!c.(a09(a)(e)");
        Checks.due("digits 0 and 9", x.element(0, 4), 1 + 512);
        Checks.due("names 0 and 4", x.element(0, 5), 1 + 16);
        Checks.due("ends(0, 1)", x.ends(0, 1), 1 + 2);
        Checks.due("which()", x.which(), 63);
        x.see(1, 3);
        Checks.due("which()", x.which(), 32);
    }

    private static void fractions() {
        says("Fractions are given in lowest terms with a positive denominator (0 is 0/1); if the parameter upper is true,"
            + " the numerator is returned, otherwise the denominator.");
        PathStream x = Checks.on("Dq!b.q!b.q!b.q!b.q!c.(a(b)(b)");
        Checks.due("2/4: share(0, true)", x.share(0, true), 1);
        Checks.due("2/4: share(0, false)", x.share(0, false), 2);
        Checks.due("0: share(4, true)", x.share(4, true), 0);
        Checks.due("0: share(4, false)", x.share(4, false), 1);
        x.open(1);
        x.close();
        x.open(1);
        Checks.due("4/4: share(0, true)", x.share(0, true), 1);
        Checks.due("4/4: share(0, false)", x.share(0, false), 1);
        Checks.due("0: chance(5, 3, true)", x.chance(5, 3, true), 0);
        Checks.due("0: chance(5, 3, false)", x.chance(5, 3, false), 1);
        Checks.due("1: chance(0, 3, true)", x.chance(0, 3, true), 1);
        Checks.due("1: chance(0, 3, false)", x.chance(0, 3, false), 1);
        Checks.due("15/16: chance(4, 5, true)", x.chance(4, 5, true), 15);
        Checks.due("15/16: chance(4, 5, false)", x.chance(4, 5, false), 16);
        Checks.due("1 - 1/625: chance(4, 2, true)", x.chance(4, 2, true), 624);
        Checks.due("1 - 1/625: chance(4, 2, false)", x.chance(4, 2, false), 625);
    }

    private static void face() {
        says("The constructor and the methods follow, a promise each: the signature, then what it does.");
        long methods = Arrays.stream(PathStream.class.getDeclaredMethods())
            .filter(m -> Modifier.isPublic(m.getModifiers())).map(Method::getName).distinct().count();
        Checks.due("public methods", methods, 28);
        Checks.due("public constructors", PathStream.class.getConstructors().length, 1);
    }
}
