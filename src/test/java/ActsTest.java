/** Promises 42 to 44. */
public final class ActsTest {
    private static final String TEXT = "board slack 0 joint 0;node r;node a off r right long 10;node b off a up long 7;"
        + "plug p on a holes 9 gauge 1 to 9;plug q on b holes 9 gauge 1 to 9;plug s on r holes 9 gauge 1 to 9;"
        + "net n power gauge 1 of p 0,q 0,s 0;net m power gauge 1 of p 1,q 1;build 1";

    public static void main(String[] args) {
        splices();
        stretches();
        undoes();
        tenAreKept();
        tenOfBothSorts();
        Bench.close("ActsTest");
    }

    private static void undo(SplicedLoom x, boolean want) {
        Bench.due("undo()", x.undo() ? 1 : 0, want ? 1 : 0);
        Bench.due("trouble() of undo()", x.trouble(), want ? 0 : 1);
    }

    private static void splices() {
        SplicedLoom x = Bench.loomOf(TEXT);
        Bench.answers(x, "the first by hand", x.splices(0, 2), -2);
        Bench.answers(x, "another one", x.splices(0, 0), 2);
        Bench.answers(x, "the same", x.splices(0, 0), 0);
        Bench.answers(x, "net(0, 5)", x.net(0, 5), 0);
        Bench.answers(x, "splice", x.splice(0, 0), 0);
        Bench.answers(x, "of a net of two", x.splices(1, 2), -2);
        Bench.due("nets by hand", x.size(2), 2);
        Bench.answers(x, "not by hand", x.splices(0, -1), 0);
        Bench.answers(x, "not by hand again", x.splices(0, -1), -2);
        Bench.due("nets by hand", x.size(2), 1);
        Bench.due("acts", x.size(1), 6);
        Bench.refuses(x, "splices(0, 3)", x.splices(0, 3), 2);
        Bench.refuses(x, "splices(0, -2)", x.splices(0, -2), 2);
        Bench.refuses(x, "splices(2, 0)", x.splices(2, 0), 1);
        Bench.refuses(x, "splices(2, 3)", x.splices(2, 3), 1);
        Bench.refuses(x, "splices(-1, 0)", x.splices(-1, 0), 1);
        Bench.due("refused ones are no acts", x.size(1), 6);
    }

    private static void stretches() {
        SplicedLoom x = Bench.loomOf(TEXT);
        Bench.answers(x, "stretch", x.stretch(1, 999), 10);
        Bench.answers(x, "the same", x.stretch(1, 999), 999);
        Bench.answers(x, "to 1", x.stretch(2, 1), 7);
        Bench.answers(x, "node", x.node(1, 1), 999);
        Bench.answers(x, "far", x.far(0, 2), 1000);
        Bench.answers(x, "place x", x.place(2, 0), 999);
        Bench.answers(x, "place y", x.place(2, 1), 1);
        Bench.answers(x, "span", x.span(), 1000);
        Bench.answers(x, "wire", x.wire(0, 1, 0), 1);
        Bench.due("acts", x.size(1), 3);
        Bench.refuses(x, "to 0", x.stretch(1, 0), 2);
        Bench.refuses(x, "to 1000", x.stretch(1, 1000), 2);
        Bench.refuses(x, "to -1", x.stretch(1, -1), 2);
        Bench.refuses(x, "the root", x.stretch(0, 5), 1);
        Bench.refuses(x, "the root ahead of the length", x.stretch(0, 0), 1);
        Bench.refuses(x, "stretch(3, 5)", x.stretch(3, 5), 1);
        Bench.refuses(x, "stretch(-1, 5)", x.stretch(-1, 5), 1);
        Bench.due("refused ones are no acts", x.size(1), 3);
    }

    private static void undoes() {
        SplicedLoom x = Bench.loomOf(TEXT);
        undo(x, false);
        x.splices(0, 2);
        undo(x, true);
        Bench.answers(x, "not by hand", x.net(0, 5), -2);
        x.splices(0, 2);
        x.about(7);
        undo(x, true);
        x.splices(0, 2);
        x.stretch(1, 20);
        x.splices(0, -1);
        x.stretch(1, 30);
        undo(x, true);
        Bench.answers(x, "length", x.node(1, 1), 20);
        Bench.answers(x, "far", x.far(0, 2), 27);
        Bench.answers(x, "place", x.place(2, 0), 20);
        undo(x, true);
        Bench.answers(x, "by hand", x.net(0, 5), 2);
        undo(x, true);
        Bench.answers(x, "length", x.node(1, 1), 10);
        Bench.due("what can be undone", x.size(1), 1);
        x.stretch(2, 5);
        Bench.due("what can be undone", x.size(1), 2);
        undo(x, true);
        undo(x, true);
        Bench.answers(x, "not by hand", x.net(0, 5), -2);
        Bench.answers(x, "length of b", x.node(2, 1), 7);
        undo(x, false);
    }

    private static void tenAreKept() {
        SplicedLoom x = Bench.loomOf(TEXT);
        for (int i = 1; i <= 13; i++) {
            x.stretch(1, 100 + i);
            Bench.due("what can be undone", x.size(1), Math.min(i, 10));
        }
        for (int i = 12; i >= 3; i--) {
            undo(x, true);
            Bench.answers(x, "length", x.node(1, 1), 100 + i);
        }
        undo(x, false);
        Bench.answers(x, "length of the oldest kept", x.node(1, 1), 103);
    }

    private static void tenOfBothSorts() {
        SplicedLoom x = Bench.loomOf(TEXT);
        for (int i = 1; i <= 7; i++) {
            x.stretch(1 + i % 2, 100 + i);
            x.splices(i % 2, i % 3);
        }
        x.splices(0, 2);
        // of 15 acts the latest ten are kept: stretches 4 to 7, splices 3 to 7 and that
        undo(x, true);
        Bench.answers(x, "by hand behind undone 8", x.net(0, 5), 0);
        for (int i = 7; i >= 3; i--) {
            undo(x, true);
            Bench.answers(x, "by hand behind undone " + i, x.net(i % 2, 5), (i - 2) % 3);
            undo(x, i > 3);
            Bench.answers(x, "length behind undone " + i, x.node(1 + i % 2, 1), i > 3 ? 98 + i : 103);
        }
        Bench.answers(x, "bundle 1", x.node(1, 1), 102);
        Bench.answers(x, "bundle 2", x.node(2, 1), 103);
        Bench.answers(x, "net 0", x.net(0, 5), 2);
        Bench.answers(x, "net 1", x.net(1, 5), 1);
    }
}
