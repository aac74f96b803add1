/** The sentences of "Actions". */
final class ActionSentences {
    private ActionSentences() {
    }

    static void run() {
        actions();
        latest();
    }

    private static void actions() {
        Checks.sentence("Actions", "Successful calls of open(), close(), tell(), ask() and drop() are actions.");
        PathStream x = new PathStream();
        Checks.due("about(6)", x.about(6), 0);
        x.open(0);
        Checks.due("about(6) after open()", x.about(6), 1);
        x.tell(1);
        Checks.due("about(6) after tell()", x.about(6), 2);
        x.tell(1);
        Checks.due("about(6) after the same digit again", x.about(6), 3);
        x.ask(1, 0);
        Checks.due("about(6) after ask()", x.about(6), 4);
        x.drop();
        Checks.due("about(6) after drop()", x.about(6), 5);
        x.close();
        Checks.due("about(6) after close()", x.about(6), 6);
        x.open(0);
        x.open(5);
        x.tell(1);
        x.tell(10);
        x.ask(0, 0);
        x.ask(1, 16);
        x.drop();
        x.close();
        Checks.due("about(6) after calls without success", x.about(6), 6);
        x.write('D');
        x.fault();
        x.keep(0);
        x.see(0, 0);
        x.unsee();
        x.which();
        x.judge(1, 700);
        x.drawn(3);
        x.seed(3);
        x.chance(1, 1, true);
        x.wipe();
        Checks.due("about(6) after other calls", x.about(6), 6);
    }

    private static void latest() {
        Checks.sentence("Actions", "The latest 14 are recorded and can be undone.");
        int[] counts = {1, 13, 14, 15, 16, 27, 28, 29, 42, 43};
        for (int count : counts) {
            undoAll(count);
        }
        undoBetween();
    }

    /** One action of each kind in turn; each leaves a world that no other one leaves. */
    private static void act(PathStream x, int i) {
        switch (i % 5) {
            case 0: x.open(i % 3); break;
            case 1: x.ask(1, 1500 + i % 16); break;
            case 2: x.tell(i % 10); break;
            case 3: x.close(); break;
            default: x.drop(); break;
        }
    }

    private static void undoAll(int count) {
        PathStream x = Checks.on("Dq!*[=1].(a");
        for (int i = 0; i < count; i++) {
            act(x, i);
            Checks.due("about(6) after " + (i + 1), x.about(6), Math.min(14, i + 1));
        }
        for (int left = Math.min(14, count) - 1; left >= 0; left--) {
            Checks.due("undo() after " + count, x.undo(), left);
            Checks.due("about(6)", x.about(6), left);
        }
        Checks.due("undo() of none", x.undo(), Checks.LATE);
        Checks.due("before the latest 14 of " + count, Checks.world(x), worldAfter(Math.max(0, count - 14)));
        for (int undone = 1; undone <= Math.min(14, count); undone++) {
            PathStream y = Checks.on("Dq!*[=1].(a");
            for (int i = 0; i < count; i++) {
                act(y, i);
            }
            for (int i = 0; i < undone; i++) {
                y.undo();
            }
            Checks.due("before the latest " + undone + " of " + count, Checks.world(y), worldAfter(count - undone));
        }
    }

    private static String worldAfter(int count) {
        PathStream x = Checks.on("Dq!*[=1].(a");
        for (int i = 0; i < count; i++) {
            act(x, i);
        }
        return Checks.world(x);
    }

    /** Undone actions make room again, wherever the record begins. */
    private static void undoBetween() {
        PathStream x = Checks.on("Dq!*[=1].(a");
        for (int i = 0; i < 20; i++) {
            act(x, i);
        }
        for (int left = 13; left >= 9; left--) {
            Checks.due("undo()", x.undo(), left);
        }
        Checks.due("the world after 15", Checks.world(x), worldAfter(15));
        for (int i = 15; i < 22; i++) {
            act(x, i);
            Checks.due("about(6)", x.about(6), Math.min(14, i - 5));
        }
        for (int left = 13; left >= 0; left--) {
            Checks.due("undo()", x.undo(), left);
        }
        Checks.due("undo()", x.undo(), Checks.LATE);
        Checks.due("the world after 8", Checks.world(x), worldAfter(8));
    }
}
