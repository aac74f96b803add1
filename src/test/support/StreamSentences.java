/** The sentences of "What it is", of the description's beginning, and of "The stream". */
final class StreamSentences {
    /** Element 0 and 18 closed children: room for one more. */
    private static final String NINETEEN = "D(a" + "(b)".repeat(18);

    private StreamSentences() {
    }

    static void run() {
        whatItIs();
        calls();
        description();
        names();
        number();
        openOrClosed();
        current();
        parents();
        depth();
        digits();
        events();
        clock();
    }

    private static void says(String words) {
        Checks.sentence("The stream", words);
    }

    private static void whatItIs() {
        Checks.sentence("What it is", "A streaming evaluator of path queries (in the manner of XPath) on a document"
            + " whose elements are opened and closed one by one.");
        PathStream x = new PathStream();
        x.ask(1, 1000);
        Checks.due("open(0)", x.open(0), 0);
        Checks.due("is(0, 0)", x.is(0, 0), 2);
        Checks.due("close()", x.close(), 0);
        Checks.due("is(0, 0) of a closed one", x.is(0, 0), 2);
    }

    private static void calls() {
        Checks.sentence("What it is", "An object is used for at most 512 calls after it has been made; what later calls"
            + " answer is free.");
        PathStream x = new PathStream();
        x.ask(1, 1007);
        x.open(0);
        for (int call = 3; call < 510; call++) {
            x.tell(2);
        }
        Checks.due("tell(1) as the 510th call", x.tell(1), 1);
        Checks.due("out(0, 0, true) as the 511th call", x.out(0, 0, true), 509);
        Checks.due("undo() as the 512th call", x.undo(), 13);
        PathStream y = new PathStream();
        for (int call = 1; call < 512; call++) {
            y.write('D');
        }
        Checks.due("wipe() as the 512th call", y.wipe(), 99);
        PathStream z = new PathStream();
        for (int call = 1; call < 512; call++) {
            z.drawn(30);
        }
        Checks.due("drawn(30) as the 512th call", z.drawn(30), 0);
    }

    private static void description() {
        Checks.sentence("Description", "Elements are nested, have names, and hold digits.");
        PathStream x = Checks.on("Dq!c[=1].q!*.(a(c1");
        Checks.due("parent", x.element(1, 1), 0);
        Checks.due("name", x.element(1, 0), 2);
        Checks.due("digits", x.element(1, 4), 2);
        Checks.sentence("Description", "Several paths are evaluated at the same time; each determines its answers as"
            + " early as possible, and emits them in document order as soon as no earlier element is in doubt.");
        Checks.due("path 0", Checks.outs(x, 0), "1@3");
        Checks.due("path 1", Checks.outs(x, 1), "0@1 1@2");
        Checks.sentence("Description", "The class also counts what must be buffered, compares paths, infers an unknown"
            + " test from observations, and computes Shapley values and probabilities.");
        Checks.due("path(0, 4)", x.path(0, 4), 1);
        Checks.due("within(0, 1)", x.within(0, 1), 1);
        x.see(0, 1);
        Checks.due("which()", x.which(), 1 << 2 | 1 << 5);
        Checks.due("share(0, false)", x.share(0, false), 2);
        Checks.due("chance(1, 5, true)", x.chance(1, 5, true), 3);
    }

    private static void names() {
        says("Names are 0 to 4 (written a to e in texts).");
        PathStream x = Checks.on("D(a(b(c(d(e");
        for (int e = 0; e < 5; e++) {
            Checks.due("element(" + e + ", 0)", x.element(e, 0), e);
        }
        PathStream y = new PathStream();
        for (int name = 0; name < 5; name++) {
            Checks.due("open(" + name + ")", y.open(name), name);
            Checks.due("element(" + name + ", 0)", y.element(name, 0), name);
            Checks.due("judge(1, 10" + name + ")", y.judge(1, 100 + name), Checks.NONE);
        }
        Checks.due("open(-1)", y.open(-1), Checks.BAD);
        Checks.due("open(5)", y.open(5), Checks.BAD);
        for (int name = 5; name < 10; name++) {
            Checks.due("judge(1, 10" + name + ")", y.judge(1, 100 + name), 0);
        }
        for (char letter : new char[] {'a' - 1, 'f', 'A', 'E', '0', '*'}) {
            Checks.faultDue("D(" + letter, 2);
        }
    }

    private static void number() {
        says("At most 20 elements are opened; they are numbered from 0 as they are opened.");
        PathStream x = new PathStream();
        x.ask(1, 1500);
        Checks.due("open(0)", x.open(0), 0);
        for (int i = 1; i < 20; i++) {
            Checks.due("about(1)", x.about(1), i);
            Checks.due("open(1)", x.open(1), i);
            x.close();
        }
        Checks.due("open(1) as the 21st", x.open(1), Checks.FULL);
        Checks.due("about(1)", x.about(1), 20);
        Checks.due("element(19, 0)", x.element(19, 0), 1);
        Checks.due("element(20, 0)", x.element(20, 0), Checks.UNKNOWN);
        Checks.due("judge(1, 101) as the 21st", x.judge(1, 101), 0);
        for (int seed = 0; seed < 100; seed++) {
            x.seed(seed * 7_777_777_777_777L);
            Checks.due("drawn(30) opens no 21st", x.drawn(30), 20);
        }
        x.undo();
        x.undo();
        Checks.due("open(1) as the 20th", x.open(1), 19);
        Checks.faultDue(NINETEEN + "(b)", Checks.NONE);
        Checks.faultDue(NINETEEN + "(b)(", NINETEEN.length() + 3);
        Checks.faultDue(NINETEEN + "(b(", NINETEEN.length() + 2);
        nineteenAndDrawn();
    }

    private static void nineteenAndDrawn() {
        PathStream x = Checks.on(NINETEEN);
        x.ask(1, 1500);
        int most = 0;
        for (int seed = 0; seed < 100; seed++) {
            x.seed(seed * 7_777_777_777_777L);
            most = Math.max(most, x.drawn(30));
        }
        Checks.due("the most elements drawn beside 19", most, 20);
        Checks.due("judge(1, 101) as the 20th", x.judge(1, 101), Checks.NONE);
        Checks.due("judge(2, 101101) as the 21st", x.judge(2, 101_101), 1);
        Checks.due("judge(3, 101200101) as the 21st", x.judge(3, 101_200_101), 2);
    }

    private static void openOrClosed() {
        says("Each has a name, and is open or closed.");
        PathStream x = Checks.on("D(b(e");
        Checks.due("element(1, 3)", x.element(1, 3), 1);
        x.close();
        Checks.due("element(1, 3) when closed", x.element(1, 3), 0);
        Checks.due("element(0, 3)", x.element(0, 3), 1);
        Checks.due("element(1, 0) when closed", x.element(1, 0), 4);
    }

    private static void current() {
        says("The current element is the open element that was opened last of those that are open, if any.");
        PathStream x = new PathStream();
        Checks.due("about(2) of none", x.about(2), Checks.NONE);
        String[] texts = {"D(a", "D(a(b", "D(a(b)", "D(a(b)(c", "D(a(b)(c(d)", "D(a(b)(c(d))", "D(a(b)(c))"};
        int[] want = {0, 1, 0, 2, 2, 0, Checks.NONE};
        for (int i = 0; i < texts.length; i++) {
            Checks.due("about(2) of " + texts[i], Checks.on(texts[i]).about(2), want[i]);
        }
    }

    private static void parents() {
        says("An element that is opened becomes a child of the current element, its parent; element 0 has no parent,"
            + " and no element can be opened after it has been closed.");
        PathStream x = Checks.on("D(a(b)(c(d)(e");
        int[] parents = {Checks.NONE, 0, 0, 2, 2};
        int[] children = {1 << 1 | 1 << 2, 0, 1 << 3 | 1 << 4, 0, 0};
        for (int e = 0; e < parents.length; e++) {
            Checks.due("element(" + e + ", 1)", x.element(e, 1), parents[e]);
            Checks.due("element(" + e + ", 5)", x.element(e, 5), children[e]);
        }
        PathStream y = Checks.on("Dq!*.(a");
        Checks.due("judge(2, 200100)", y.judge(2, 200_100), 1);
        y.close();
        Checks.due("open(0)", y.open(0), Checks.LATE);
        Checks.due("judge(1, 100)", y.judge(1, 100), 0);
        for (int seed = 0; seed < 100; seed++) {
            y.seed(seed * 7_777_777_777_777L);
            Checks.due("drawn(30)", y.drawn(30), 1);
        }
        Checks.faultDue("D(a)(", 4);
        Checks.faultDue("D(a(b))(", 7);
    }

    private static void depth() {
        says("The depth of an element is 1 for element 0, and 1 more than that of its parent for others; it is at"
            + " most 8.");
        PathStream x = new PathStream();
        x.ask(4, 1500_1500_1500_1500L);
        for (int e = 0; e < 8; e++) {
            Checks.due("about(3)", x.about(3), e);
            Checks.due("open(0)", x.open(0), e);
            Checks.due("element(" + e + ", 2)", x.element(e, 2), e + 1);
        }
        Checks.due("open(0) at depth 8", x.open(0), Checks.LATE);
        Checks.due("judge(1, 100) at depth 8", x.judge(1, 100), 0);
        Checks.due("judge(3, 200100100) to depth 9", x.judge(3, 200_100_100), 2);
        Checks.due("about(3)", x.about(3), 8);
        x.close();
        Checks.due("open(1) at depth 7", x.open(1), 8);
        Checks.due("element(8, 2)", x.element(8, 2), 8);
        x.close();
        x.close();
        Checks.due("open(1) at depth 6", x.open(1), 9);
        Checks.due("element(9, 2)", x.element(9, 2), 7);
        Checks.faultDue("D" + "(a".repeat(8), Checks.NONE);
        Checks.faultDue("D" + "(a".repeat(8) + "(", 17);
        Checks.faultDue("D" + "(a".repeat(8) + ")(a", Checks.NONE);
        Checks.faultDue("D" + "(a".repeat(8) + ")(a(", 20);
        drawnDepth();
    }

    /** A path of four steps at depths 5 to 8 alone: the draws that can't open leave its answers as they are. */
    private static void drawnDepth() {
        PathStream x = Checks.on("Dq!*." + "(a".repeat(8));
        long seed = 0;
        for (int i = 0; i < 1000; i++) {
            long next = i * 6364136223846793005L + 1442695040888963407L;
            if ((int) (next >>> 33) % 8 <= 3) {
                seed = i;
                break;
            }
        }
        x.seed(seed);
        Checks.due("drawn(1) that would open at depth 8", x.drawn(1), 8);
        x.close();
        x.seed(seed);
        Checks.due("drawn(1) that opens at depth 7", x.drawn(1), 9);
    }

    private static void digits() {
        says("An element holds the digits, 0 to 9, that were given while it was the current element (also several"
            + " ones).");
        PathStream x = Checks.on("D(a");
        int set = 0;
        for (int figure = 0; figure < 10; figure++) {
            Checks.due("tell(" + figure + ")", x.tell(figure), 0);
            set |= 1 << figure;
            Checks.due("element(0, 4)", x.element(0, 4), set);
        }
        x.tell(4);
        Checks.due("element(0, 4) after the same digit again", x.element(0, 4), 1023);
        x.open(1);
        Checks.due("element(1, 4)", x.element(1, 4), 0);
        PathStream y = Checks.on("D(a0(b9(c5))8");
        int[] want = {1 | 1 << 8, 1 << 9, 1 << 5};
        for (int e = 0; e < want.length; e++) {
            Checks.due("element(" + e + ", 4)", y.element(e, 4), want[e]);
        }
        Checks.due("tell(10)", y.tell(10), Checks.BAD);
        Checks.due("tell(-1)", y.tell(-1), Checks.BAD);
    }

    private static void events() {
        says("An event is: to open an element with a name; to close the current element; or to give a digit to the"
            + " current element.");
        PathStream x = new PathStream();
        x.open(3);
        Checks.due("the clock after open(3)", x.about(4), 1);
        x.tell(3);
        Checks.due("the clock after tell(3)", x.about(4), 2);
        x.close();
        Checks.due("the clock after close()", x.about(4), 3);
    }

    private static void clock() {
        says("The clock is the number of events so far.");
        PathStream x = Checks.on("D(a11(b)");
        Checks.due("about(4)", x.about(4), 5);
        x.tell(1);
        Checks.due("about(4) after the same digit again", x.about(4), 6);
        x.tell(10);
        x.open(5);
        x.ask(1, 1500);
        x.drop();
        x.keep(0);
        x.judge(2, 200_700);
        x.drawn(30);
        x.fault();
        Checks.due("about(4) after what is no event", x.about(4), 6);
        x.close();
        x.close();
        x.tell(1);
        x.open(1);
        Checks.due("about(4) after refused events", x.about(4), 7);
        x.undo();
        Checks.due("about(4) after undo()", x.about(4), 6);
        PathStream y = Checks.on("D(a" + "1".repeat(96));
        Checks.due("about(4) of a text of 99", y.about(4), 97);
    }
}
