/** Promises 42 to 44, and Term III of acts: their edges. Looms tells of LOOM how far it is. */
public final class ActsEdgesTest {
    private static final long MIN = Edges.MIN;
    private static final long MAX = Edges.MAX;

    public static void main(String[] args) {
        Edges.run(ActsEdgesTest.class);
    }

    private static SplicedLoom tenActs() {
        SplicedLoom x = Looms.used();
        for (int i = 3; i < 10; i++) {
            x.stretch(1, 100 + i);
        }
        return x;
    }

    // ---- Term III

    @Says(in = "III", words = "ACTS: a SPLICE by hand (or not), a BUNDLE's length.")
    static void eachActCounts() {
        SplicedLoom x = Looms.loom();
        Edges.says(x, 0, "size", 1);
        Edges.is(x, -2, "splices", 0, 4);
        Edges.says(x, 1, "size", 1);
        Edges.is(x, 4, "splices", 0, -1);
        Edges.says(x, 2, "size", 1);
        Edges.is(x, 10, "stretch", 1, 11);
        Edges.says(x, 3, "size", 1);
        // those that change nothing, too
        Edges.is(x, 11, "stretch", 1, 11);
        Edges.is(x, -2, "splices", 0, -1);
        Edges.says(x, 5, "size", 1);
        for (int i = 0; i < 5; i++) {
            Edges.is(x, 1, "undo");
        }
        Edges.says(x, 0, "size", 1);
        Edges.is(x, 10, "node", 1, 1);
        Edges.is(x, -2, "net", 0, 5);
    }

    @Says(in = "III", words = "ACTS: a SPLICE by hand (or not), a BUNDLE's length.")
    static void refusedCallsAreNoActs() {
        SplicedLoom x = Looms.acted();
        long[][] bad = {{3, 0}, {-1, 0}, {0, 5}, {0, -2}};
        for (long[] numbers : bad) {
            Bench.due("splices", Ask.of(x, "splices", numbers), -1);
        }
        long[][] bent = {{0, 5}, {5, 5}, {1, 0}, {1, 1000}};
        for (long[] numbers : bent) {
            Bench.due("stretch", Ask.of(x, "stretch", numbers), -1);
        }
        Edges.says(x, 3, "size", 1);
        // nor are calls that ask
        for (String call : new String[] {"span", "sound", "flawed", "meetings"}) {
            Edges.is(x, Ask.of(x, call), call);
        }
        Edges.says(x, 3, "size", 1);
        Edges.is(x, 1, "undo");
        Edges.is(x, -2, "net", 1, 5);
    }

    @Says(in = "III", words = "UNDO: the latest ACT not undone yet (10 are kept).")
    static void latestFirst() {
        SplicedLoom x = Looms.loom();
        x.splices(0, 4);
        x.stretch(1, 20);
        x.splices(0, 3);
        x.stretch(1, 30);
        x.splices(2, 2);
        int[][] want = {{3, 30, -2}, {3, 20, -2}, {4, 20, -2}, {4, 10, -2}, {-2, 10, -2}};
        for (int i = 0; i < 5; i++) {
            Edges.is(x, 1, "undo");
            Edges.is(x, want[i][0], "net", 0, 5);
            Edges.is(x, want[i][1], "node", 1, 1);
            Edges.is(x, want[i][2], "net", 2, 5);
            Edges.says(x, 4 - i, "size", 1);
        }
        Bench.due("undo()", x.undo() ? 1 : 0, 0);
    }

    @Says(in = "III", words = "UNDO: the latest ACT not undone yet (10 are kept).")
    static void actsBehindUndoneOnes() {
        SplicedLoom x = Looms.loom();
        x.stretch(1, 20);
        x.stretch(1, 30);
        Edges.is(x, 1, "undo");
        x.stretch(1, 40);
        // 30 is undone already: behind 40 it is 20, then 10
        Edges.is(x, 1, "undo");
        Edges.is(x, 20, "node", 1, 1);
        Edges.is(x, 1, "undo");
        Edges.is(x, 10, "node", 1, 1);
        Edges.refused(() -> {
            SplicedLoom y = Looms.used();
            y.undo();
            y.undo();
            y.undo();
            return y;
        }, 0, 1, "undo");
    }

    @Says(in = "III", words = "UNDO: the latest ACT not undone yet (10 are kept).")
    static void tenAreKept() {
        SplicedLoom x = tenActs();
        Edges.says(x, 10, "size", 1);
        for (int i = 8; i >= 3; i--) {
            Edges.is(x, 1, "undo");
            Edges.is(x, 100 + i, "node", 1, 1);
        }
        Edges.is(x, 1, "undo");
        Edges.is(x, 10, "node", 1, 1);
        Edges.is(x, 4, "net", 1, 5);
        Edges.is(x, 1, "undo");
        Edges.is(x, -2, "net", 1, 5);
        Edges.is(x, 1, "undo");
        Edges.is(x, -2, "net", 0, 5);
        Edges.is(x, 8, "node", 2, 1);
        Edges.is(x, 1, "undo");
        Edges.is(x, 4, "node", 2, 1);
        Bench.due("an eleventh undo()", x.undo() ? 1 : 0, 0);
        Bench.due("trouble()", x.trouble(), 1);
    }

    @Says(in = "III", words = "UNDO: the latest ACT not undone yet (10 are kept).")
    static void elevenActs() {
        SplicedLoom x = tenActs();
        Edges.is(x, 3, "splices", 0, 1);
        Edges.says(x, 10, "size", 1);
        Edges.is(x, 1, "undo");
        Edges.is(x, 3, "net", 0, 5);
        for (int i = 0; i < 9; i++) {
            Edges.is(x, 1, "undo");
        }
        // the first ACT, of a-b, is no longer kept: it is not undone
        Bench.due("an eleventh undo()", x.undo() ? 1 : 0, 0);
        Edges.is(x, 8, "node", 2, 1);
        Edges.is(x, -2, "net", 0, 5);
        Edges.is(x, -2, "net", 1, 5);
        Edges.is(x, 10, "node", 1, 1);
        // there is room for ten again
        for (int i = 1; i <= 12; i++) {
            Edges.is(x, i == 1 ? 8 : i - 1, "stretch", 2, i);
            Edges.says(x, Math.min(i, 10), "size", 1);
        }
        for (int i = 11; i >= 2; i--) {
            Edges.is(x, 1, "undo");
            Edges.is(x, i, "node", 2, 1);
        }
        Bench.due("an eleventh undo()", x.undo() ? 1 : 0, 0);
        Edges.is(x, 2, "node", 2, 1);
    }

    // ---- promises

    @Says(in = "The calls", words = "---- acts.")
    static void actsAndHarnesses() {
        // a faulty text leaves ACTS, a good one does not
        SplicedLoom x = Looms.acted();
        Bench.tell(x, "board slack 100");
        Edges.says(x, 3, "size", 1);
        Edges.is(x, 1, "undo");
        Bench.tell(x, Looms.LOOM);
        Edges.says(x, 0, "size", 1);
        Bench.due("undo()", x.undo() ? 1 : 0, 0);
    }

    @Says(in = "Promise 42", words = "The SPLICE of a NET is at a NODE by hand (-1: not by hand):")
    static void byHandOrNot() {
        SplicedLoom x = Looms.loom();
        for (int node = 0; node < 5; node++) {
            for (int net = 0; net < 3; net++) {
                Ask.of(x, "splices", net, node);
                Edges.is(x, node, "net", net, 5);
            }
            Edges.is(x, node, "splice", 1, 0);
            Edges.is(x, node, "splice", 1, 2);
        }
        x.splices(0, -1);
        Edges.is(x, -2, "net", 0, 5);
        Edges.is(x, 1, "splice", 1, 0);
        Edges.is(x, 4, "splice", 1, 2);
        x.splices(2, -1);
        Edges.is(x, 0, "splice", 1, 2);
        Edges.is(x, 4, "net", 1, 5);
    }

    @Says(in = "Promise 42", words = "The SPLICE of a NET is at a NODE by hand (-1: not by hand):")
    static void byHandWhereItIsAnyway() {
        SplicedLoom x = Looms.loom();
        Edges.is(x, 0, "splice", 1, 2);
        x.splices(2, 0);
        Edges.is(x, 0, "net", 2, 5);
        // by hand it stays, where least wire would be needed elsewhere
        x.stretch(4, 1);
        x.stretch(1, 999);
        Edges.is(x, 0, "splice", 1, 2);
        x.stretch(1, 1);
        x.stretch(4, 999);
        Edges.is(x, 0, "splice", 1, 2);
        Edges.is(x, 0, "splice", 0, 2);
        x.splices(2, -1);
        Edges.is(x, 1, "splice", 0, 2);
    }

    @Says(in = "Promise 42", words = "the one that was told by hand (-2 none).")
    static void theOneToldByHand() {
        SplicedLoom x = Looms.loom();
        Edges.is(x, -2, "splices", 1, -1);
        Edges.is(x, -2, "splices", 1, 4);
        Edges.is(x, 4, "splices", 1, 4);
        Edges.is(x, 4, "splices", 1, 0);
        Edges.is(x, -2, "splices", 2, 3);
        Edges.is(x, 0, "splices", 1, -1);
        Edges.is(x, -2, "splices", 1, -1);
        Edges.is(x, 3, "splices", 2, -1);
        x.undo();
        Edges.is(x, 3, "splices", 2, 1);
    }

    @Says(in = "Promise 42", words = "NONE: 1 (no such NET); 2 (no such NODE).")
    static void splicesRefused() {
        Edges.refused(Looms::bare, -1, 1, "splices", 0, 0);
        Edges.refused(Looms::bare, -1, 1, "splices", 0, -1);
        for (long net : Edges.out(3)) {
            Edges.refused(1, "splices", net, 0);
            Edges.refused(1, "splices", net, -1);
            Edges.refused(1, "splices", net, 5);
        }
        Edges.refused(1, "splices", 9, 0);
        for (long node : new long[] {5, -2, 13, 14, MIN, MAX}) {
            Edges.refused(2, "splices", 0, node);
            Edges.refused(2, "splices", 2, node);
        }
    }

    @Says(in = "Promise 43", words = "The length of a BUNDLE (by its NODE, not the ROOT) is another one (1 .. 999; the same, too):")
    static void anotherLength() {
        SplicedLoom x = Looms.loom();
        for (int length : new int[] {1, 999, 500, 2}) {
            for (int node = 1; node < 5; node++) {
                Ask.of(x, "stretch", node, length);
                Edges.is(x, length, "node", node, 1);
            }
        }
        Edges.is(x, 2, "far", 0, 1);
        Edges.is(x, 6, "far", 2, 4);
        Edges.is(x, 4, "far", 3, 2);
        Edges.is(x, 2, "place", 3, 0);
        Edges.is(x, -2, "place", 3, 1);
        Edges.is(x, -2, "extent", 0);
        Edges.is(x, 6, "span");
        Edges.is(x, 0, "meetings");
        // n in VARIANT 1 at a: 2, 2 and 4, SLACK and JOINT three times
        Edges.is(x, 2 + 5, "wire", 1, 0, 0);
        Edges.is(x, 2 + 5, "wire", 1, 0, 1);
        Edges.is(x, 4 + 5, "wire", 1, 0, 2);
    }

    @Says(in = "Promise 43", words = "The length of a BUNDLE (by its NODE, not the ROOT) is another one (1 .. 999; the same, too):")
    static void theSameLength() {
        SplicedLoom x = Looms.loom();
        Edges.is(x, 5, "stretch", 4, 5);
        Edges.is(x, 5, "stretch", 4, 5);
        Edges.is(x, 5, "node", 4, 1);
        Edges.says(x, 2, "size", 1);
        Edges.is(x, 1, "undo");
        Edges.is(x, 5, "node", 4, 1);
        Edges.is(x, 21, "far", 3, 4);
        Edges.says(x, 1, "size", 1);
    }

    @Says(in = "Promise 43", words = "the one it was.")
    static void theOneItWas() {
        SplicedLoom x = Looms.loom();
        int[] was = {0, 10, 4, 6, 5};
        for (int node = 1; node < 5; node++) {
            Edges.is(x, was[node], "stretch", node, 1);
            Edges.is(x, 1, "stretch", node, 999);
            Edges.is(x, 999, "stretch", node, 77);
            Edges.is(x, 1, "undo");
            Edges.is(x, 999, "stretch", node, 3);
        }
    }

    @Says(in = "Promise 43", words = "NONE: 1; 2.")
    static void stretchRefused() {
        Edges.refused(Looms::bare, -1, 1, "stretch", 1, 5);
        Edges.refused(1, "stretch", 0, 5);
        Edges.refused(() -> Looms.used(Looms.P + Looms.N), -1, 1, "stretch", 0, 5);
        for (long node : Edges.out(5)) {
            Edges.refused(1, "stretch", node, 5);
            Edges.refused(1, "stretch", node, 0);
        }
        for (long length : new long[] {0, 1000, -1, MIN, MAX}) {
            Edges.refused(1, "stretch", 0, length);
            Edges.refused(2, "stretch", 1, length);
            Edges.refused(2, "stretch", 4, length);
        }
    }

    @Says(in = "Promise 44", words = "UNDO: true;")
    static void undoOfALength() {
        SplicedLoom x = Looms.loom();
        x.stretch(1, 999);
        Edges.is(x, 1, "undo");
        Edges.is(x, 10, "node", 1, 1);
        Edges.is(x, 14, "far", 0, 2);
        Edges.is(x, 10, "place", 2, 0);
        Edges.is(x, 4, "place", 2, 1);
        Edges.is(x, 21, "span");
        Edges.is(x, 109, "total", 1, 0);
        Edges.is(x, 109, "common", 7);
    }

    @Says(in = "Promise 44", words = "UNDO: true;")
    static void undoOfASplice() {
        SplicedLoom x = Looms.loom();
        x.splices(0, 4);
        x.splices(0, -1);
        Edges.is(x, 1, "undo");
        Edges.is(x, 4, "splice", 1, 0);
        Edges.says(x, 1, "size", 2);
        Edges.is(x, 1, "undo");
        Edges.is(x, 1, "splice", 1, 0);
        Edges.is(x, -2, "net", 0, 5);
        Edges.says(x, 0, "size", 2);
        Edges.is(x, 109, "total", 1, 0);
    }

    @Says(in = "Promise 44", words = "false: 1 (there is nothing).")
    static void undoRefused() {
        Edges.refused(SplicedLoom::new, 0, 1, "undo");
        Edges.refused(Looms::bare, 0, 1, "undo");
        Edges.refused(() -> Looms.used(Looms.LOOM), 0, 1, "undo");
        // all undone
        Edges.refused(() -> {
            SplicedLoom x = tenActs();
            for (int i = 0; i < 10; i++) {
                x.undo();
            }
            return x;
        }, 0, 1, "undo");
    }
}
