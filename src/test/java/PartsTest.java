/** Promises 18 to 20. */
public final class PartsTest {
    private static final String TEXT = "board slack 0 joint 0;node r;node a off r up long 9;option x;option y;"
        + "plug p on a holes 12 gauge 2 to 7;plug q on r holes 1 gauge 9 to 9 with y;"
        + "plug s on r holes 3 gauge 1 to 9 without x;"
        + "net n power gauge 3 of p 11,q 0;net m signal gauge 9 without y of s 2,p 1,s 0,p 0,q 0;"
        + "net k ground gauge 1 with x of p 3,p 4,p 5";

    public static void main(String[] args) {
        SplicedLoom x = Bench.loomOf(TEXT);
        plugs(x);
        nets(x);
        pins(x);
        Bench.close("PartsTest");
    }

    private static void plugs(SplicedLoom x) {
        int[][] want = {{1, 12, 2, 7, -2, -2}, {0, 1, 9, 9, 1, 1}, {0, 3, 1, 9, 0, 0}};
        for (int i = 0; i < 3; i++) {
            for (int what = 0; what < 6; what++) {
                Bench.answers(x, "plug(" + i + ", " + what + ")", x.plug(i, what), want[i][what]);
            }
            Bench.refuses(x, "plug(" + i + ", 6)", x.plug(i, 6), 1);
            Bench.refuses(x, "plug(" + i + ", -1)", x.plug(i, -1), 1);
        }
        Bench.refuses(x, "plug(3, 0)", x.plug(3, 0), 1);
        Bench.refuses(x, "plug(-1, 0)", x.plug(-1, 0), 1);
    }

    private static void nets(SplicedLoom x) {
        int[][] want = {{0, 3, 2, -2, -2, -2}, {1, 9, 5, 1, 0, -2}, {2, 1, 3, 0, 1, -2}};
        for (int i = 0; i < 3; i++) {
            for (int what = 0; what < 6; what++) {
                Bench.answers(x, "net(" + i + ", " + what + ")", x.net(i, what), want[i][what]);
            }
            Bench.refuses(x, "net(" + i + ", 6)", x.net(i, 6), 1);
            Bench.refuses(x, "net(" + i + ", -1)", x.net(i, -1), 1);
        }
        Bench.refuses(x, "net(3, 0)", x.net(3, 0), 1);
        Bench.refuses(x, "net(-1, 0)", x.net(-1, 0), 1);
        x.splices(0, 1);
        Bench.answers(x, "net(0, 5) by hand", x.net(0, 5), 1);
    }

    private static void pins(SplicedLoom x) {
        int[][] plug = {{0, 1}, {2, 0, 2, 0, 1}, {0, 0, 0}};
        int[][] cavity = {{11, 0}, {2, 1, 0, 0, 0}, {3, 4, 5}};
        for (int i = 0; i < 3; i++) {
            for (int k = 0; k < plug[i].length; k++) {
                Bench.answers(x, "pin(" + i + ", " + k + ", 0)", x.pin(i, k, 0), plug[i][k]);
                Bench.answers(x, "pin(" + i + ", " + k + ", 1)", x.pin(i, k, 1), cavity[i][k]);
            }
            Bench.refuses(x, "one pin more of " + i, x.pin(i, plug[i].length, 0), 1);
        }
        Bench.refuses(x, "pin(0, -1, 0)", x.pin(0, -1, 0), 1);
        Bench.refuses(x, "pin(3, 0, 0)", x.pin(3, 0, 0), 1);
        Bench.refuses(x, "pin(-1, 0, 0)", x.pin(-1, 0, 0), 1);
        Bench.refuses(x, "pin(0, 0, 2)", x.pin(0, 0, 2), 1);
        Bench.refuses(x, "pin(0, 0, -1)", x.pin(0, 0, -1), 1);
    }
}
