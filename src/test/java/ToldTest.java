/** Promises 45 to 47. */
public final class ToldTest {
    private static final String TEXT = "board slack 0 joint 0;node r;option x;option y;plug p on r holes 9 gauge 1 to 9;"
        + "plug s on r holes 9 gauge 1 to 9 with x;plug t on r holes 9 gauge 1 to 9 with y;"
        + "net a power gauge 1 of p 0,s 0;net b power gauge 1 of p 1,t 1;net c power gauge 1 of p 2,p 3;"
        + "net d power gauge 1 of s 4,t 4,s 5;net e power gauge 1 without x of p 5,p 6,p 7";

    public static void main(String[] args) {
        unused();
        size();
        trouble();
        Bench.close("ToldTest");
    }

    private static void unusedRow(String builds, int... want) {
        SplicedLoom x = Bench.loomOf(TEXT + builds);
        for (int i = 0; i < want.length; i++) {
            Bench.due("unused(" + i + ") of \"" + builds + "\"", Bench.unused(x, i), want[i]);
        }
        Bench.due("one more unused of \"" + builds + "\"", Bench.unused(x, want.length), -99);
        Bench.due("unused(-1)", Bench.unused(x, -1), -99);
        Bench.due("unused(MAX)", Bench.unused(x, Integer.MAX_VALUE), -99);
        Bench.due("unused(MIN)", Bench.unused(x, Integer.MIN_VALUE), -99);
    }

    private static void unused() {
        unusedRow("", 0, 1, 2, 3, 4);
        unusedRow(";build 1", 0, 1, 3);
        unusedRow(";build 1 x", 1, 4);
        unusedRow(";build 1 y", 0, 3);
        unusedRow(";build 1 x;build 2", 1);
        unusedRow(";build 1 x y;build 2");
    }

    private static void size() {
        SplicedLoom x = Bench.loomOf(TEXT);
        Bench.due("size(0)", x.size(0), 0);
        x.feed(1, 2, 3, 4, 5);
        Bench.due("size(0)", x.size(0), 20);
        x.splices(3, 0);
        x.splices(3, 0);
        x.splices(4, 0);
        Bench.due("size(1)", x.size(1), 3);
        Bench.due("size(2)", x.size(2), 2);
        x.undo();
        Bench.due("size(1)", x.size(1), 2);
        Bench.due("size(2)", x.size(2), 1);
        Bench.due("size(3)", x.size(3), -1);
        Bench.due("size(-1)", x.size(-1), -1);
        x.about(9);
        x.size(3);
        Bench.due("size is none that is refused", x.trouble(), 1);
    }

    private static void trouble() {
        SplicedLoom x = new SplicedLoom();
        Bench.due("new", x.trouble(), 0);
        x.harness(1);
        Bench.due("2", x.trouble(), 2);
        x.harness(0);
        Bench.due("4", x.trouble(), 4);
        Bench.due("4 again", x.trouble(), 4);
        x.span();
        Bench.due("1", x.trouble(), 1);
        Bench.tell(x, TEXT);
        Bench.due("0", x.trouble(), 0);
        x.families(1);
        Bench.due("5", x.trouble(), 5);
        Bench.unused(x, 99);
        x.feed(0, 0, 0, 0, 0);
        x.fault();
        x.where();
        x.size(0);
        Bench.due("5 stays behind those that can't be refused", x.trouble(), 5);
        x.lying(9, 9);
        Bench.due("0 again", x.trouble(), 0);
        x.undo();
        Bench.due("undo's 1", x.trouble(), 1);
    }
}
