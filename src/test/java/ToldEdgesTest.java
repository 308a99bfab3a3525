/** Promises 45 to 47, and Term IV: their edges. */
public final class ToldEdgesTest {
    private static final long MIN = Edges.MIN;
    private static final long MAX = Edges.MAX;

    private static final String FIVE = Looms.R + "option x;option y;plug p on r holes 9 gauge 1 to 9;"
        + "plug s on r holes 9 gauge 1 to 9 with x;plug t on r holes 9 gauge 1 to 9 with y;"
        + "net a power gauge 1 of p 0,s 0;net b power gauge 1 of p 1,t 1;net c power gauge 1 of p 2,p 3;"
        + "net d power gauge 1 of s 4,t 4,s 5;net e power gauge 1 without x of p 5,p 6,p 7";

    public static void main(String[] args) {
        Edges.run(ToldEdgesTest.class);
    }

    private static void unused(String builds, int... nets) {
        SplicedLoom x = Looms.told(FIVE + builds);
        for (int i = 0; i < nets.length; i++) {
            Edges.says(x, nets[i], "unused", i);
        }
        for (long i : Edges.out(nets.length)) {
            Edges.says(x, Ask.THROWN, "unused", i);
        }
    }

    @Says(in = "The calls", words = "---- what is told.")
    static void toldAtAnyTime() {
        // of a loom without a HARNESS, of one with some, behind refused calls
        SplicedLoom x = Looms.bare();
        int size = x.size(0);
        for (int trouble : new int[] {0, 1, 2}) {
            if (trouble > 0) {
                Bench.due("refused", trouble == 1 ? x.span() : x.harness(-1), -1);
            }
            Edges.says(x, trouble, "trouble");
            Edges.says(x, size, "size", 0);
            Edges.says(x, Ask.THROWN, "unused", 0);
        }
    }

    @Says(in = "Promise 45", words = "The i-th NET, by numbers,")
    static void unusedByNumbers() {
        unused(";build 1", 0, 1, 3);
        unused(";build 1 y", 0, 3);
        unused(";build 1 x", 1, 4);
    }

    @Says(in = "Promise 45", words = "that has no WIRES in any BUILD's VARIANT.")
    static void unusedInAllBuilds() {
        // without BUILDS none is used
        unused("", 0, 1, 2, 3, 4);
        // used in one of them is used
        unused(";build 1 x;build 1", 1);
        unused(";build 1;build 1 x", 1);
        unused(";build 1 x;build 1 x y", 4);
        unused(";build 1;build 1 x y");
        // in two BUILDS a PIN each, but never two: no WIRES
        SplicedLoom x = Looms.told(Looms.R + "option x;plug p on r holes 9 gauge 1 to 9 with x;"
            + "plug q on r holes 9 gauge 1 to 9 without x;net n power gauge 1 of p 0,q 0;net m power gauge 1 of p 1,p 2;"
            + "build 1;build 1 x");
        Edges.says(x, 0, "unused", 0);
        Edges.says(x, Ask.THROWN, "unused", 1);
        // a VARIANT of which there is no BUILD uses nothing
        SplicedLoom y = Looms.told(Looms.P + "option x;net n power gauge 1 with x of p 0,p 1;build 1");
        Edges.says(y, 0, "unused", 0);
        // all ten
        StringBuilder ten = new StringBuilder(Looms.P + "option x;build 1");
        for (char name = 'a'; name <= 'j'; name++) {
            ten.append(";net n").append(name).append(" power gauge 1 with x of p 0,p 1");
        }
        SplicedLoom z = Looms.told(ten.toString());
        for (int i = 0; i < 10; i++) {
            Edges.says(z, i, "unused", i);
        }
        Edges.says(z, Ask.THROWN, "unused", 10);
    }

    @Says(in = "Promise 45", words = "NoSuchElementException if there is none such.")
    static void unusedRefused() {
        for (long i : new long[] {-1, 0, 1, 10, MIN, MAX}) {
            Edges.says(new SplicedLoom(), Ask.THROWN, "unused", i);
            Edges.says(Looms.told(FIVE + ";build 1;build 1 x y"), Ask.THROWN, "unused", i);
        }
        for (long i : new long[] {-1, 3, 4, 10, MIN, MAX}) {
            // it throws, and all stays as it was, trouble() too
            SplicedLoom x = Looms.used(FIVE + ";build 1");
            x.about(9);
            Edges.says(x, Ask.THROWN, "unused", i);
            Edges.says(x, 3, "unused", 2);
            Edges.says(x, 1, "trouble");
            Edges.is(x, 5, "about", 5);
            Edges.is(x, 1, "harness", Looms.OTHER.length());
        }
    }

    @Says(in = "Promise 46", words = "0 bytes of THE TAPE,")
    static void bytesOfTheTape() {
        SplicedLoom x = new SplicedLoom();
        for (int bytes = 0; bytes <= 1000; bytes += 20) {
            Edges.says(x, bytes, "size", 0);
            x.feed(1, 2, 3, 4, 5);
        }
        Edges.says(x, 1000, "size", 0);
        x.harness(1001);
        Edges.says(x, 1000, "size", 0);
        x.harness(0);
        Edges.says(x, 0, "size", 0);
        Bench.tell(x, Looms.LOOM);
        Edges.says(x, 0, "size", 0);
    }

    @Says(in = "Promise 46", words = "1 what can be undone,")
    static void whatCanBeUndone() {
        SplicedLoom x = Looms.loom();
        for (int acts = 1; acts <= 12; acts++) {
            x.stretch(1, acts);
            Edges.says(x, Math.min(acts, 10), "size", 1);
        }
        for (int acts = 9; acts >= 0; acts--) {
            x.undo();
            Edges.says(x, acts, "size", 1);
        }
        x.undo();
        Edges.says(x, 0, "size", 1);
    }

    @Says(in = "Promise 46", words = "2 NETS with a SPLICE by hand.")
    static void netsByHand() {
        SplicedLoom x = Looms.loom();
        for (int net = 0; net < 3; net++) {
            x.splices(net, 0);
            Edges.says(x, net + 1, "size", 2);
            x.splices(net, 4);
            Edges.says(x, net + 1, "size", 2);
        }
        x.splices(1, -1);
        Edges.says(x, 2, "size", 2);
        x.splices(1, -1);
        Edges.says(x, 2, "size", 2);
        x.undo();
        x.undo();
        Edges.says(x, 3, "size", 2);
        Edges.says(Looms.acted(), 2, "size", 2);
    }

    @Says(in = "Promise 46", words = "NONE for others;")
    static void sizeOfOthers() {
        for (long what : Edges.out(3)) {
            Edges.says(new SplicedLoom(), -1, "size", what);
            SplicedLoom x = Looms.used();
            Edges.says(x, -1, "size", what);
            // it is no call that may be refused: trouble() stays
            x.plugs(9);
            Edges.says(x, -1, "size", what);
            Edges.says(x, 2, "trouble");
        }
    }

    @Says(in = "Promise 46", words = "0 for what there isn't.")
    static void sizeOfNothing() {
        for (int what = 0; what < 3; what++) {
            Edges.says(new SplicedLoom(), 0, "size", what);
            Edges.says(Looms.loom(), 0, "size", what);
            SplicedLoom x = new SplicedLoom();
            Bench.tell(x, "board slack 100");
            Edges.says(x, 0, "size", what);
        }
    }

    @Says(in = "Promise 47", words = "TROUBLE.")
    static void troubleOfTheLatestCall() {
        SplicedLoom x = Looms.used(FIVE);
        Edges.says(x, 0, "trouble");
        x.families(1);
        Edges.says(x, 5, "trouble");
        Edges.says(x, 5, "trouble");
        x.families(6);
        Edges.says(x, 2, "trouble");
        x.node(1, 0);
        Edges.says(x, 1, "trouble");
        x.node(0, 0);
        Edges.says(x, 0, "trouble");
        x.undo();
        Edges.says(x, 1, "trouble");
        x.harness(0);
        Edges.says(x, 4, "trouble");
        x.harness(1);
        Edges.says(x, 2, "trouble");
        x.lying(3, 3);
        Edges.says(x, 0, "trouble");
        // an answer below 0 need be none of a refused call
        Bench.due("node(0, 0)", x.node(0, 0), -2);
        Edges.says(x, 0, "trouble");
    }
}
