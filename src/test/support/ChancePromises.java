/** The sentences of the promises 24 to 29: shares, chances, the random number, slots. */
final class ChancePromises {
    private static final int UNKNOWN = Checks.UNKNOWN, BAD = Checks.BAD, LATE = Checks.LATE;
    private static final long FACTOR = 6364136223846793005L, SUMMAND = 1442695040888963407L;

    private ChancePromises() {
    }

    static void run() {
        share();
        chance();
        chanceArguments();
        seed();
        drawn();
        drawnNumber();
        drawnEvents();
        drawnLeftOut();
        drawnAnswer();
        keep();
        again();
    }

    private static void shareDue(PathStream x, int path, int upper, int lower) {
        Checks.due("share(" + path + ", true)", x.share(path, true), upper);
        Checks.due("share(" + path + ", false)", x.share(path, false), lower);
    }

    private static void share() {
        Checks.sentence("Promise 24", "Returns the Shapley value of a path in the following game: the paths are added one by"
            + " one in a random order, all orders being equally likely; the value of a set of paths is the number of"
            + " elements that are an answer of at least one of them.");
        PathStream x = Checks.on("Dq!*.q!a.q!b.q/a.q!e.(a(b)(a(b)(c))");
        shareDue(x, 0, 17, 6);
        shareDue(x, 1, 5, 6);
        shareDue(x, 2, 1, 1);
        shareDue(x, 3, 1, 3);
        shareDue(x, 4, 0, 1);
        Checks.sentence("Promise 24", "The share of a path is the mean increase of the value when it is added.");
        for (int paths = 1; paths <= 5; paths++) {
            PathStream y = Checks.on("D" + "q!a.".repeat(paths) + "(a");
            shareDue(y, paths - 1, 1, paths);
        }
        shareDue(Checks.on("Dq!*.(a" + "(b)".repeat(19)), 0, 20, 1);
        shareDue(Checks.on("Dq!*.q!*.q!*.(a" + "(b)".repeat(19)), 2, 20, 3);
        shareDue(Checks.on("Dq!a[=1].(a"), 0, 0, 1);
        shareDue(Checks.on("Dq!*[=1].q!b.(a(b1"), 0, 1, 2);
        Checks.sentence("Promise 24", "number of the path");
        Checks.due("share(5, true)", x.share(5, true), UNKNOWN);
        Checks.sentence("Promise 24", "true for the numerator, false for the denominator");
        shareDue(Checks.on("Dq!b.q!*.(a(b)(b)(b"), 0, 3, 2);
        Checks.sentence("Promise 24", "Returns that number; UNKNOWN if there is no such path.");
        Checks.due("share(0, true) of none", new PathStream().share(0, true), UNKNOWN);
        for (int far : Checks.FAR) {
            Checks.due("share(" + far + ", true)", x.share(far, true), UNKNOWN);
            Checks.due("share(" + far + ", false)", x.share(far, false), UNKNOWN);
        }
    }

    private static void chanceDue(PathStream x, int v, int lost, int upper, int lower) {
        Checks.due("chance(" + v + ", " + lost + ", true)", x.chance(v, lost, true), upper);
        Checks.due("chance(" + v + ", " + lost + ", false)", x.chance(v, lost, false), lower);
    }

    private static void chance() {
        Checks.sentence("Promise 25", "Returns the probability that v or more elements are answers of at least one remaining"
            + " path, if each path is lost with the probability x / 10, independently of the others.");
        PathStream x = Checks.on("Dq!a.q!b.(a(b)(b)");
        chanceDue(x, 0, 3, 1, 1);
        chanceDue(x, 1, 3, 91, 100);
        chanceDue(x, 2, 3, 7, 10);
        chanceDue(x, 3, 3, 49, 100);
        chanceDue(x, 4, 3, 0, 1);
        chanceDue(Checks.on("Dq!a.q!a.(a"), 1, 3, 91, 100);
        chanceDue(Checks.on("Dq!a.q!a.(a"), 2, 3, 0, 1);
        chanceDue(Checks.on("Dq!a[=1].(a"), 1, 3, 0, 1);
        chanceDue(Checks.on("Dq!*[=1].(a(b1"), 1, 3, 7, 10);
        chanceDue(Checks.on("D" + "q/a.".repeat(5) + "(a"), 1, 1, 99999, 100000);
        chanceDue(Checks.on("D" + "q/a.".repeat(5) + "(a"), 1, 9, 40951, 100000);
        chanceDue(Checks.on("Dq/a.q/*/a.q/*/b.q/*/c.q/*/d.(a(a)(b)(c)(d"), 5, 9, 1, 100000);
        chanceDue(Checks.on("Dq/a.q/*/a.q/*/b.q/*/c.q/*/d.(a(a)(b)(c)(d"), 5, 5, 1, 32);
        chanceDue(new PathStream(), 0, 5, 1, 1);
        chanceDue(new PathStream(), 1, 5, 0, 1);
    }

    private static void chanceArguments() {
        PathStream x = Checks.on("Dq!*.(a" + "(b)".repeat(19));
        Checks.sentence("Promise 25", "0 to 20");
        chanceDue(x, 0, 4, 1, 1);
        chanceDue(x, 20, 4, 3, 5);
        Checks.due("chance(-1, 4, true)", x.chance(-1, 4, true), BAD);
        Checks.due("chance(21, 4, true)", x.chance(21, 4, true), BAD);
        Checks.sentence("Promise 25", "0 to 10");
        chanceDue(x, 1, 0, 1, 1);
        chanceDue(x, 1, 10, 0, 1);
        chanceDue(x, 0, 10, 1, 1);
        for (int lost = 1; lost < 10; lost++) {
            int common = lost == 5 ? 5 : lost % 2 == 0 ? 2 : 1;
            chanceDue(x, 20, lost, (10 - lost) / common, 10 / common);
        }
        Checks.due("chance(1, -1, true)", x.chance(1, -1, true), BAD);
        Checks.due("chance(1, 11, true)", x.chance(1, 11, true), BAD);
        Checks.sentence("Promise 25", "true for the numerator, false for the denominator");
        chanceDue(x, 1, 8, 1, 5);
        Checks.sentence("Promise 25", "Returns that number; BAD if v or x is out of range.");
        Checks.due("chance(21, 11, true)", x.chance(21, 11, true), BAD);
        for (int far : Checks.FAR) {
            Checks.due("chance(" + far + ", 0, true)", x.chance(far, 0, true), BAD);
            Checks.due("chance(0, " + far + ", false)", x.chance(0, far, false), BAD);
            Checks.due("chance of a new object", new PathStream().chance(far, 0, false), BAD);
        }
    }

    private static void seed() {
        long[] values = {1, -1, 0, Long.MAX_VALUE, Long.MIN_VALUE, 1L << 32, 0};
        Checks.sentence("Promise 26", "Sets the random number.");
        PathStream x = Checks.on("Dq!*.(a");
        x.seed(before(v(0, 0)));
        Checks.due("drawn(1) opens", x.drawn(1), 2);
        x.seed(before(v(4, 0)));
        Checks.due("drawn(1) closes", x.drawn(1), 1);
        Checks.sentence("Promise 26", "the new random number");
        PathStream y = new PathStream();
        for (long value : values) {
            y.seed(value);
            Checks.due("seed(" + value + ") twice", y.seed(value), value);
        }
        Checks.sentence("Promise 26", "Returns the previous random number.");
        long previous = 0;
        PathStream z = new PathStream();
        for (long value : values) {
            Checks.due("seed(" + value + ")", z.seed(value), previous);
            previous = value;
        }
        Checks.due("about(6)", z.about(6), 0);
    }

    /** The number v of a draw with this remainder by 8. */
    private static int v(int kind, int number) {
        return 8 * number + kind;
    }

    /** The random number that a draw replaces by one with the number v. */
    private static long before(int v) {
        return previous((long) v << 33);
    }

    private static long previous(long x) {
        long inverse = FACTOR;
        for (int i = 0; i < 6; i++) {
            inverse *= 2 - FACTOR * inverse;
        }
        return (x - SUMMAND) * inverse;
    }

    private static long next(long x) {
        return x * FACTOR + SUMMAND;
    }

    private static int drawnOnce(String task, int v) {
        PathStream x = Checks.on(task);
        x.seed(before(v));
        return x.drawn(1);
    }

    private static void drawn() {
        Checks.sentence("Promise 27", "Simulates m random events from the present state on.");
        long opensTwice = seedOf(0, 0);
        PathStream x = Checks.on("Dq!*.(a");
        x.seed(opensTwice);
        Checks.due("drawn(1)", x.drawn(1), 2);
        x.seed(opensTwice);
        Checks.due("drawn(2)", x.drawn(2), 3);
        x.open(1);
        x.seed(opensTwice);
        Checks.due("drawn(2) after open(1)", x.drawn(2), 4);
        PathStream digits = Checks.on("Dq!*[=0].(b");
        digits.seed(seedOf(0, 6));
        Checks.due("opens, gives a digit", digits.drawn(2), 1);
        digits.seed(seedOf(0, 0));
        Checks.due("opens, without the digit before", digits.drawn(2), 0);
        Checks.sentence("Promise 27", "Only the random number is changed.");
        Checks.sameDue("drawn(30) and seed back", () -> {
            PathStream y = States.ordinary();
            y.drawn(30);
            y.seed(0x123456789ABCDEFL);
            return y;
        }, States::ordinary);
        Checks.sameDue("drawn(30) and seed back", () -> {
            PathStream y = States.deep();
            y.drawn(30);
            y.seed(-77);
            return y;
        }, States::deep);
        Checks.sentence("Promise 27", "1 to 30");
        long random = 5;
        for (int m = 0; m <= 31; m++) {
            PathStream y = new PathStream();
            y.seed(5);
            Checks.due("drawn(" + m + ")", y.drawn(m), m >= 1 && m <= 30 ? 0 : BAD);
            Checks.due("seed(0) after drawn(" + m + ")", y.seed(0), m <= 30 ? random : 5);
            random = next(random);
        }
    }

    /** A random number whose first two draws are of these kinds (0 open, 4 close, 6 digit), with names a, digits 0. */
    private static long seedOf(int first, int second) {
        for (long low = 0; low < 100_000; low++) {
            // The bits below v change nothing now, but v of the second draw.
            long start = previous(((long) v(first, 0) << 33) + (low << 15));
            int then = (int) (next(next(start)) >>> 33);
            int kind = then % 8 <= 3 ? 0 : then % 8 <= 5 ? 4 : 6;
            if (kind == second && then / 8 % 10 == 0) {
                return start;
            }
        }
        Checks.fail("no random number found");
        return 0;
    }

    private static void drawnNumber() {
        Checks.sentence("Promise 27", "For each, the random number x is replaced by x * 6364136223846793005L +"
            + " 1442695040888963407L (64-bit arithmetic with overflow), and v is (int) (x >>> 33).");
        long[] starts = {0, 1, -1, Long.MAX_VALUE, Long.MIN_VALUE, 0x123456789ABCDEFL, -77};
        for (long start : starts) {
            PathStream x = new PathStream();
            x.seed(start);
            x.drawn(1);
            Checks.due("after one draw from " + start, x.seed(start), next(start));
            x.drawn(30);
            long after = start;
            for (int i = 0; i < 30; i++) {
                after = next(after);
            }
            Checks.due("after 30 draws from " + start, x.seed(0), after);
        }
        Checks.due("from 0", next(0), 1442695040888963407L);
        Checks.due("the greatest v, 2^31 - 1, gives the digit 5", drawnOnce("Dq!*[=5].(a", Integer.MAX_VALUE), 1);
        Checks.due("v = 2^30, of a negative x, opens 3", drawnOnce("Dq!d.(a", 1 << 30), 1);
        Checks.due("v = 0 opens 0", drawnOnce("Dq/a/a.(a", 0), 1);
    }

    private static void drawnEvents() {
        Checks.sentence("Promise 27", "If v % 8 is 0 to 3, an element with the name v / 8 % 5 is opened; if it is 4 or 5, the"
            + " current element is closed; if it is 6 or 7, the digit v / 8 % 10 is given to it.");
        for (int kind = 0; kind < 8; kind++) {
            for (int number = 0; number < 40; number++) {
                drawnEvent(kind, number);
            }
        }
        // Closing shows only by what comes then: the next element is opened outside.
        Checks.due("close, then open", drawnTwice("Dq/b/a.(b(c", 4, 0), 1);
        Checks.due("no digit, but open", drawnTwice("Dq/b/a.(b(c", 6, 0), 0);
        Checks.due("close, then a digit", drawnTwice("Dq/b[=0].(b(c", 4, 6), 1);
        Checks.due("open, then a digit", drawnTwice("Dq/b[=0].(b(c", 0, 6), 0);
        Checks.due("open, then a digit", drawnTwice("Dq!a[=0].(b(c", 0, 6), 1);
    }

    private static int drawnTwice(String task, int first, int second) {
        PathStream x = Checks.on(task);
        x.seed(seedOf(first, second));
        return x.drawn(2);
    }

    private static void drawnEvent(int kind, int number) {
        int v = v(kind, number);
        for (int name = 0; name < 5; name++) {
            int want = kind <= 3 && number % 5 == name ? 1 : 0;
            Checks.due("v = " + v + " opens " + name, drawnOnce("Dq/a/" + (char) ('a' + name) + ".(a", v), want);
        }
        for (int figure = 0; figure < 10; figure++) {
            int want = kind >= 6 && number % 10 == figure ? 1 : 0;
            Checks.due("v = " + v + " gives " + figure, drawnOnce("Dq/a[=" + figure + "].(a", v), want);
        }
        // Element 0 closed, the event behind is not possible; closing alone changes no answers.
        Checks.due("v = " + v + " opens", drawnOnce("Dq!*.(a", v), kind <= 3 ? 2 : 1);
    }

    private static void drawnLeftOut() {
        Checks.sentence("Promise 27", "An event that is not possible is left out.");
        for (int kind = 0; kind < 8; kind++) {
            Checks.due("at the end", drawnOnce("Dq!*.q!*[=0].(a)", v(kind, 0)), 1);
            Checks.due("without elements", drawnOnce("Dq!*.", v(kind, 0)), kind <= 3 ? 1 : 0);
            Checks.due("at depth 8", drawnOnce("Dq!*." + "(a".repeat(8), v(kind, 0)), 8);
            Checks.due("when full", drawnOnce("Dq!*.(a" + "(b)".repeat(19), v(kind, 0)), 20);
        }
        Checks.due("left out, then open", drawnTwice("Dq!*.", 4, 0), 1);
        Checks.due("left out, then open", drawnTwice("Dq!*.", 6, 0), 1);
        Checks.due("open, then close", drawnTwice("Dq!*.", 0, 4), 1);
        Checks.due("left out at depth 8, then a digit", drawnTwice("Dq!*[=0]." + "(a".repeat(8), 0, 6), 1);
        Checks.due("closed at the end, then left out", drawnTwice("Dq!*.(a", 4, 0), 1);
    }

    private static void drawnAnswer() {
        Checks.sentence("Promise 27", "Returns the sum of the numbers of answers of all paths after that; BAD if m is out of"
            + " range.");
        Checks.due("an element by five paths", drawnOnce("D" + "q!*.".repeat(5) + "(a", 0), 10);
        Checks.due("without paths", drawnOnce("D(a", 0), 0);
        Checks.due("doubt doesn't count", drawnOnce("Dq!*[=9].(a(a9)", 0), 1);
        Checks.due("20 elements by five paths",
            drawnOnce("D" + "q!*.".repeat(5) + "(a" + "(b)".repeat(19), 0), 100);
        PathStream x = Checks.on("Dq!*.(a");
        x.seed(3);
        for (int far : Checks.FAR) {
            Checks.due("drawn(" + far + ")", x.drawn(far), BAD);
        }
        Checks.due("drawn(0)", x.drawn(0), BAD);
        Checks.due("drawn(31)", x.drawn(31), BAD);
        Checks.due("the random number stays", x.seed(0), 3);
    }

    private static void keep() {
        Checks.sentence("Promise 28", "Keeps the elements, the clock and the paths (with their emitted answers and peaks) in a"
            + " slot, in place of what it held.");
        PathStream x = Checks.on("Dq!*[=1].(a(b1");
        String first = Checks.world(x);
        x.keep(0);
        x.close();
        x.tell(1);
        x.ask(1, 1500);
        String second = Checks.world(x);
        x.keep(1);
        x.again(0);
        Checks.due("slot 0", Checks.world(x), first);
        x.again(1);
        Checks.due("slot 1", Checks.world(x), second);
        x.keep(0);
        x.drop();
        x.again(0);
        Checks.due("in place", Checks.world(x), second);
        Checks.due("keep() is no action", States.ordinary().about(6), keepAndCount());
        Checks.sentence("Promise 28", "0 or 1");
        Checks.due("keep(-1)", x.keep(-1), UNKNOWN);
        Checks.due("keep(2)", x.keep(2), UNKNOWN);
        PathStream y = Checks.on("D(a");
        Checks.due("keep(1)", y.keep(1), 1);
        Checks.due("again(0) of the other slot", y.again(0), LATE);
        Checks.sentence("Promise 28", "Returns the clock; UNKNOWN if there is no such slot.");
        Checks.due("keep(0) at 0", new PathStream().keep(0), 0);
        Checks.due("keep(0) at 46", States.deep().keep(0), 46);
        for (int far : Checks.FAR) {
            Checks.due("keep(" + far + ")", x.keep(far), UNKNOWN);
        }
    }

    private static int keepAndCount() {
        PathStream x = States.ordinary();
        x.keep(1);
        return x.about(6);
    }

    private static void again() {
        Checks.sentence("Promise 29", "Restores what a slot holds, which keeps it.");
        PathStream x = Checks.on("Dq!*[=1].q!b.(a(b1");
        String kept = Checks.world(x);
        x.keep(1);
        for (int i = 0; i < 3; i++) {
            x.drop();
            x.close();
            x.tell(1);
            x.open(2);
            Checks.due("again(1)", x.again(1), 3);
            Checks.due("what it held", Checks.world(x), kept);
        }
        PathStream empty = new PathStream();
        empty.keep(0);
        empty.open(1);
        empty.ask(1, 0);
        Checks.due("again(0) of nothing that was kept", empty.again(0), 0);
        Checks.due("about", Checks.aboutAll(empty), "0 0 -9 0 0 0 0 0 0");
        PathStream later = Checks.on("Dq!*[=5].q!*[d].(a");
        later.keep(0);
        later.open(1);
        later.tell(5);
        later.open(3);
        later.again(0);
        later.open(2);
        Checks.due("nothing of what came later: digits", Checks.isOfAll(later, 0), "11");
        Checks.due("nothing of what came later: children", Checks.isOfAll(later, 1), "11");
        againLeavesTheRest();
        Checks.sentence("Promise 29", "No actions are recorded then.");
        PathStream z = States.deep();
        z.again(0);
        Checks.due("about(6)", z.about(6), 0);
        Checks.due("undo()", z.undo(), LATE);
        z.tell(1);
        Checks.due("undo() of what came then", z.undo(), 0);
        Checks.due("undo()", z.undo(), LATE);
        Checks.sentence("Promise 29", "0 or 1");
        Checks.due("again(-1)", z.again(-1), UNKNOWN);
        Checks.due("again(0)", z.again(0), 39);
        Checks.due("again(1)", z.again(1), 46);
        Checks.due("again(2)", z.again(2), UNKNOWN);
        Checks.sentence("Promise 29", "Returns the clock then; UNKNOWN if there is no such slot; LATE if it is empty.");
        Checks.due("again(0) of an empty slot", new PathStream().again(0), LATE);
        Checks.due("again(1) of an empty slot", new PathStream().again(1), LATE);
        Checks.due("again(2) of empty slots", new PathStream().again(2), UNKNOWN);
        for (int far : Checks.FAR) {
            Checks.due("again(" + far + ")", z.again(far), UNKNOWN);
        }
    }

    private static void againLeavesTheRest() {
        PathStream x = Checks.on("Dq!a.(a");
        x.keep(0);
        x.see(0, 1);
        x.seed(9);
        x.write('x');
        x.again(0);
        Checks.due("the observations stay", x.about(7), 1);
        Checks.due("the text stays", x.about(8), 8);
        Checks.due("the random number stays", x.seed(0), 9);
        Checks.due("the other slot stays", x.again(1), LATE);
    }
}
