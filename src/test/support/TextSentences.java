/** The sentences of "Texts": the buffer, what a task is, and the error position. */
final class TextSentences {
    private static final String TWENTY = "D(a" + "(b)".repeat(19);

    private TextSentences() {
    }

    static void run() {
        buffer();
        task();
        path();
        step();
        event();
        possibleEvent();
        openAtTheEnd();
        errorPosition();
    }

    private static void says(String words) {
        Checks.sentence("Texts", words);
    }

    private static void buffer() {
        says("There is a text buffer with at most 99 characters.");
        PathStream x = new PathStream();
        x.write('D');
        x.write('(');
        x.write('a');
        for (int length = 4; length <= 99; length++) {
            Checks.due("write('1')", x.write('1'), length);
        }
        Checks.due("write('1') as the 100th", x.write('1'), Checks.FULL);
        Checks.due("write('x') as the 100th", x.write('x'), Checks.FULL);
        Checks.due("about(8)", x.about(8), 99);
        Checks.due("fault()", x.fault(), Checks.NONE);
        Checks.due("task()", x.task(), 0);
        Checks.due("about(4)", x.about(4), 97);
        Checks.due("wipe()", x.wipe(), 99);
        Checks.due("write('D') after wipe()", x.write('D'), 1);
    }

    private static void task() {
        says("A task is a text without blanks: the letter D, then any number of paths (at most 5), then any number of"
            + " events.");
        Checks.faultDue("", 0);
        Checks.faultDue("D", Checks.NONE);
        Checks.faultDue("DD", 1);
        Checks.faultDue("d", 0);
        Checks.faultDue("q/a.", 0);
        Checks.faultDue("(a)", 0);
        Checks.faultDue("D(a)", Checks.NONE);
        Checks.faultDue("Dq/a.", Checks.NONE);
        Checks.faultDue("Dq/a.(a)", Checks.NONE);
        Checks.faultDue("D" + "q!*.".repeat(5) + "(a)", Checks.NONE);
        Checks.faultDue("D(a)q/a.", 4);
        Checks.faultDue("D(a" + "1".repeat(96), Checks.NONE);
        String whole = "Dq/a[b]!*[=3].(a(b3))";
        Checks.faultDue(whole, Checks.NONE);
        for (char blank : new char[] {' ', '\t', '\n', '\r', 0, 160}) {
            for (int i = 0; i <= whole.length(); i++) {
                Checks.faultDue(whole.substring(0, i) + blank + whole.substring(i), i);
            }
        }
    }

    private static void path() {
        says("A path is the letter q, 1 to 4 steps, and a point.");
        Checks.faultDue("Dq", 2);
        Checks.faultDue("Dq.", 2);
        Checks.faultDue("DQ/a.", 1);
        Checks.faultDue("D/a.", 1);
        String steps = "";
        for (int n = 1; n <= 4; n++) {
            steps += n % 2 == 0 ? "/b" : "!b";
            Checks.faultDue("Dq" + steps, 2 + steps.length());
            Checks.faultDue("Dq" + steps + ".", Checks.NONE);
            Checks.faultDue("Dq" + steps + ",", 2 + steps.length());
            Checks.faultDue("Dq" + steps + "(a)", 2 + steps.length());
            Checks.faultDue("Dq" + steps + "..", 3 + steps.length());
            Checks.due("path(0, 0)", Checks.on("Dq" + steps + ".").path(0, 0), n);
        }
        Checks.faultDue("Dq" + steps + "/b.", 2 + steps.length());
    }

    private static void step() {
        says("A step is / (child) or ! (descendant), then a letter a to e or * (any name), then optionally [x] with a"
            + " letter x from a to e (has a child with this name), or [=f] with a digit f (holds this digit).");
        String tests = "abcde*";
        for (int axis = 0; axis < 2; axis++) {
            for (int test = 0; test < 6; test++) {
                for (int condition = 0; condition < 16; condition++) {
                    String end = condition == 0 ? "" : condition <= 5 ? "[" + (char) ('a' + condition - 1) + "]"
                        : "[=" + (condition - 6) + "]";
                    String step = (axis == 0 ? "/" : "!") + tests.charAt(test) + end;
                    PathStream x = Checks.on("Dq" + step + "/*" + step + ".");
                    int code = 1000 * axis + 100 * test + condition;
                    Checks.due("the first step of " + step, x.step(0, 0), code);
                    Checks.due("the last step of " + step, x.step(0, 2), code);
                    Checks.due("the step between", x.step(0, 1), 500);
                }
            }
        }
        Checks.faultDue("Dq/a[*].", 5);
        Checks.faultDue("Dq/a[1].", 5);
        Checks.faultDue("Dq/a[].", 5);
        Checks.faultDue("Dq/a[=].", 6);
        Checks.faultDue("Dq/a[=a].", 6);
        Checks.faultDue("Dq/a[=10].", 7);
        Checks.faultDue("Dq/a[ab].", 6);
        Checks.faultDue("Dq/a[a][b].", 7);
    }

    private static void event() {
        says("An event is ( and a letter a to e, which opens an element with this name; ) which closes the current"
            + " element; or a digit, which the current element holds then.");
        PathStream x = Checks.on("D(e0(a9)5");
        Checks.due("about(1)", x.about(1), 2);
        Checks.due("about(4)", x.about(4), 6);
        Checks.due("element(0, 0)", x.element(0, 0), 4);
        Checks.due("element(1, 0)", x.element(1, 0), 0);
        Checks.due("element(1, 3)", x.element(1, 3), 0);
        Checks.due("element(0, 4)", x.element(0, 4), 1 | 1 << 5);
        Checks.due("element(1, 4)", x.element(1, 4), 1 << 9);
        for (int figure = 0; figure < 10; figure++) {
            Checks.due("the digit " + figure, Checks.on("D(a" + figure).element(0, 4), 1 << figure);
        }
        Checks.faultDue("D()", 2);
        Checks.faultDue("D((a", 2);
        Checks.faultDue("D(1", 2);
        Checks.faultDue("D(aa", 3);
    }

    private static void possibleEvent() {
        says("An event must be possible as described above.");
        Checks.faultDue("D)", 1);
        Checks.faultDue("D7", 1);
        Checks.faultDue("D(a)7", 4);
        Checks.faultDue("D(a))", 4);
        Checks.faultDue("D(a)(b)", 4);
        Checks.faultDue("D" + "(c".repeat(9), 17);
        Checks.faultDue(TWENTY + "(b)", TWENTY.length());
        Checks.faultDue(TWENTY + "7)", Checks.NONE);
    }

    private static void openAtTheEnd() {
        says("Elements may still be open at the end.");
        Checks.faultDue("D(a", Checks.NONE);
        Checks.faultDue("D(a(b)", Checks.NONE);
        Checks.faultDue("D(a(b(c1", Checks.NONE);
        Checks.due("about(3)", Checks.on("D(a(b(c1").about(3), 3);
    }

    private static void errorPosition() {
        says("The error position of a text is the index, from 0, of the first character with which, after the"
            + " characters before it, no task can begin, whatever its length would be (this includes a sixth q, a"
            + " fifth step, a q behind an event, a \"(\" where no element can be opened, and \")\" or a digit where no"
            + " element is open); it is the length of the text if the text only ends too early.");
        Checks.faultDue("x", 0);
        Checks.faultDue("Dxy", 1);
        Checks.faultDue("D" + "q/a.".repeat(5) + "q/a.", 21);
        Checks.faultDue("Dq/a!b[c]/*[=0]!e!", 17);
        Checks.faultDue("Dq/a!b[c]/*[=0]!e[d]/", 20);
        Checks.faultDue("D(aq/a.", 3);
        Checks.faultDue("D(a5q/a.", 4);
        Checks.faultDue("D(a)q/a.", 4);
        Checks.faultDue("D(a)(", 4);
        Checks.faultDue("D" + "(d".repeat(8) + "(", 17);
        Checks.faultDue(TWENTY + "(", TWENTY.length());
        Checks.faultDue("Dq/a.)", 5);
        Checks.faultDue("Dq/a.0", 5);
        Checks.faultDue("D(a)9", 4);
        endsTooEarly();
        nextLetters();
    }

    private static void endsTooEarly() {
        String whole = "Dq/a[b]!*[=3].(a(b3))";
        for (int length = 0; length <= whole.length(); length++) {
            boolean isTask = length == 1 || length == 14 || length >= 16 && length != 17;
            Checks.faultDue(whole.substring(0, length), isTask ? Checks.NONE : length);
        }
        // No text can go on after 99 characters, but a task could.
        Checks.faultDue("D(a" + "1".repeat(95) + "(", 99);
        String longPath = "q" + "/a[=1]".repeat(4) + ".";
        Checks.faultDue("D" + longPath.repeat(3) + "q" + "/a[=1]".repeat(3) + "/", 99);
        Checks.faultDue("D(a" + "1".repeat(95) + "q", 98);
        Checks.faultDue("D(a" + "1".repeat(95) + "x", 98);
    }

    /** With each of the 256 characters behind a beginning. */
    private static void nextLetters() {
        String figures = "0123456789";
        String[][] allowed = {
            {"", "D"}, {"D", "q("}, {"Dq", "/!"}, {"Dq/", "abcde*"}, {"Dq!", "abcde*"}, {"Dq/a", "[/!."},
            {"Dq!*", "[/!."}, {"Dq/a[", "abcde="}, {"Dq/a[e", "]"}, {"Dq/a[=", figures}, {"Dq/a[=0", "]"},
            {"Dq/a[e]", "/!."}, {"Dq/a[=9]", "/!."}, {"Dq/a.", "q("}, {"Dq/a/a/a!a", "[."}, {"Dq/a/a/a!", "abcde*"},
            {"Dq/a/a/a", "[/!."}, {"Dq/a/a/a!a[b]", "."}, {"Dq/a/a/a/a.", "q("}, {"Dq/a.q/a.q/a.q/a.", "q("},
            {"Dq/a.q/a.q/a.q/a.q/a.", "("}, {"Dq/a.q/a.q/a.q/a.q", "/!"}, {"D(", "abcde"}, {"D(a", "()" + figures},
            {"D(a1", "()" + figures}, {"D(a(b)", "()" + figures}, {"D(a)", ""}, {"Dq/a.(a)", ""}, {"D(a(b))", ""},
            {"D" + "(a".repeat(7), "()" + figures}, {"D" + "(a".repeat(8), ")" + figures},
            {"D" + "(a".repeat(8) + ")", "()" + figures}, {TWENTY, ")" + figures},
            {TWENTY.substring(0, TWENTY.length() - 1), ")" + figures}, {TWENTY + ")", ""},
            {TWENTY.substring(0, TWENTY.length() - 3), "()" + figures},
        };
        for (String[] row : allowed) {
            for (int code = 0; code < 256; code++) {
                nextLetter(row[0], (char) code, row[1].indexOf((char) code) >= 0);
            }
        }
    }

    private static void nextLetter(String beginning, char letter, boolean allowed) {
        String told = "fault() of " + beginning + " and the character " + (int) letter;
        int fault = Checks.put(new PathStream(), beginning + letter).fault();
        if (allowed) {
            boolean goesOn = fault == Checks.NONE || fault == beginning.length() + 1;
            Checks.due(told + " (answered " + fault + ") lets it go on", goesOn ? 1 : 0, 1);
        } else {
            Checks.due(told, fault, beginning.length());
            int later = Checks.put(new PathStream(), beginning + letter + "(a)q/a.D").fault();
            Checks.due(told + " and more", later, beginning.length());
        }
    }
}
