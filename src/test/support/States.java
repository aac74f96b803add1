/** Objects at the edges of what can be held, made anew at each call. */
final class States {
    private States() {
    }

    /** Some of everything, and room for more; the text is no task, and slot 1 is empty. */
    static PathStream ordinary() {
        PathStream x = Checks.on("Dq!*[=1].q/a!b.(a(b(a1)");
        x.ask(2, 15000101);
        x.tell(3);
        x.see(0, 1);
        x.keep(0);
        x.open(1);
        x.drop();
        x.close();
        x.seed(0x123456789ABCDEFL);
        return Checks.put(x, "Dq/a(");
    }

    /** 20 elements, the current one of depth 8; 5 paths, 14 actions, 6 observations, 99 characters, 2 slots. */
    static PathStream deep() {
        return filled("(a" + "(b)".repeat(12) + "(b".repeat(7));
    }

    /** As deep(), but the current element has the depth 2. */
    static PathStream wide() {
        return filled("(a" + "(b)".repeat(18) + "(b");
    }

    private static PathStream filled(String events) {
        PathStream x = Checks.on("Dq!*[=1].q!b.q!a[=2]!b." + events);
        x.ask(1, 1100);
        x.ask(4, 1500_0500_1007_0000L);
        for (int i = 0; i < 7; i++) {
            x.tell(i);
        }
        x.keep(0);
        for (int i = 3; i < 10; i++) {
            x.tell(i);
        }
        x.keep(1);
        for (int i = 0; i < 6; i++) {
            x.see(i % 5, 19 + i % 2);
        }
        x.seed(-77);
        return Checks.put(x, "D(a" + "1".repeat(95) + "x");
    }

    /** Element 0 is closed; there are no paths, no recorded actions and no slots. */
    static PathStream ended() {
        PathStream x = Checks.on("D(a(b1))");
        x.seed(Long.MIN_VALUE);
        return Checks.put(x, "D)");
    }

    /** 20 elements, and element 0 is closed. */
    static PathStream endedFull() {
        return Checks.on("Dq!*.(a" + "(b)".repeat(19) + ")");
    }
}
