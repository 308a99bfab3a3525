/** Promises 18 to 20: their edges. */
public final class PartsEdgesTest {
    // the least and the greatest of each number, every sort of WHEN
    private static final String PARTS = Looms.R + "node a off r up long 9;option x;option y;"
        + "plug p on a holes 12 gauge 1 to 9;plug q on r holes 1 gauge 9 to 9 with y;"
        + "plug s on r holes 3 gauge 1 to 1 without x;"
        + "net n power gauge 1 of p 11,q 0;net m signal gauge 9 without y of s 2,p 1,s 0,p 0,q 0;"
        + "net k ground gauge 5 with x of p 3,p 4,p 5";

    public static void main(String[] args) {
        Edges.run(PartsEdgesTest.class);
    }

    private static SplicedLoom parts() {
        return Looms.told(PARTS);
    }

    private static void refused(String call, long... with) {
        Edges.refused(() -> Looms.used(PARTS), -1, 1, call, with);
    }

    @Says(in = "The calls", words = "---- plugs, nets, as told: 1 (no such PLUG, NET, PIN, what).")
    static void noSuchPart() {
        for (long i : Edges.out(3)) {
            refused("plug", i, 0);
            refused("net", i, 0);
            refused("pin", i, 0, 0);
        }
        for (long what : Edges.out(6)) {
            refused("plug", 2, what);
            refused("net", 2, what);
        }
        // as many as there may be, but not in this one
        refused("plug", 7, 0);
        refused("net", 9, 0);
        refused("pin", 0, 4, 0);
    }

    @Says(in = "The calls", words = "---- plugs, nets, as told: 1 (no such PLUG, NET, PIN, what).")
    static void asTold() {
        // q and s are never THERE together, yet all PINS of m are told
        SplicedLoom x = parts();
        Edges.is(x, 5, "net", 1, 2);
        Edges.is(x, 1, "pin", 1, 4, 0);
        Edges.is(x, 0, "pin", 1, 4, 1);
        Edges.is(x, 2, "pin", 1, 0, 0);
        // an ACT changes nothing of it
        x.splices(1, 1);
        x.stretch(1, 1);
        Edges.is(x, 5, "net", 1, 2);
        Edges.is(x, 1, "plug", 0, 0);
    }

    @Says(in = "Promise 18", words = "Of a PLUG 0 its NODE, 1 CAVITIES, 2, 3 GAUGES from, to,")
    static void numbersOfAPlug() {
        SplicedLoom x = parts();
        int[][] want = {{1, 12, 1, 9}, {0, 1, 9, 9}, {0, 3, 1, 1}};
        for (int i = 0; i < 3; i++) {
            for (int what = 0; what < 4; what++) {
                Edges.is(x, want[i][what], "plug", i, what);
            }
        }
    }

    @Says(in = "Promise 18", words = "4 the OPTION of its WHEN (-2 without),")
    static void optionOfAPlug() {
        SplicedLoom x = parts();
        Edges.is(x, -2, "plug", 0, 4);
        Edges.is(x, 1, "plug", 1, 4);
        Edges.is(x, 0, "plug", 2, 4);
        SplicedLoom y = Looms.told(Looms.R + "option w;option x;option y;option z;"
            + "plug p on r holes 2 gauge 1 to 9 without z;" + Looms.N);
        Edges.is(y, 3, "plug", 0, 4);
    }

    @Says(in = "Promise 18", words = "5 1 with, 0 without (-2 without a WHEN).")
    static void whenOfAPlug() {
        SplicedLoom x = parts();
        Edges.is(x, -2, "plug", 0, 5);
        Edges.is(x, 1, "plug", 1, 5);
        Edges.is(x, 0, "plug", 2, 5);
    }

    @Says(in = "Promise 18", words = "NONE: 1.")
    static void plugRefused() {
        for (long i : Edges.out(3)) {
            for (int what = 0; what < 6; what++) {
                refused("plug", i, what);
            }
        }
        for (long what : Edges.out(6)) {
            refused("plug", 0, what);
            refused("plug", 3, what);
        }
        Edges.refused(Looms::bare, -1, 1, "plug", 0, 0);
    }

    @Says(in = "Promise 19", words = "Of a NET 0 KIND (0 power, 1 signal, 2 ground), 1 GAUGE, 2 how many PINS,")
    static void numbersOfANet() {
        SplicedLoom x = parts();
        int[][] want = {{0, 1, 2}, {1, 9, 5}, {2, 5, 3}};
        for (int i = 0; i < 3; i++) {
            for (int what = 0; what < 3; what++) {
                Edges.is(x, want[i][what], "net", i, what);
            }
        }
    }

    @Says(in = "Promise 19", words = "3, 4 likewise its WHEN,")
    static void whenOfANet() {
        SplicedLoom x = parts();
        int[][] want = {{-2, -2}, {1, 0}, {0, 1}};
        for (int i = 0; i < 3; i++) {
            Edges.is(x, want[i][0], "net", i, 3);
            Edges.is(x, want[i][1], "net", i, 4);
        }
        SplicedLoom y = Looms.told(Looms.P + "option w;option x;option y;option z;"
            + "net n power gauge 1 with z of p 0,p 1");
        Edges.is(y, 3, "net", 0, 3);
        Edges.is(y, 1, "net", 0, 4);
    }

    @Says(in = "Promise 19", words = "5 the NODE of its SPLICE by hand (-2).")
    static void spliceByHandOfANet() {
        SplicedLoom x = parts();
        Edges.is(x, -2, "net", 2, 5);
        x.splices(2, 0);
        Edges.is(x, 0, "net", 2, 5);
        Edges.is(x, -2, "net", 1, 5);
        x.splices(2, 1);
        Edges.is(x, 1, "net", 2, 5);
        // of a NET of two PINS, too, that has no SPLICE
        x.splices(0, 1);
        Edges.is(x, 1, "net", 0, 5);
        x.splices(2, -1);
        Edges.is(x, -2, "net", 2, 5);
        Edges.is(x, 1, "net", 0, 5);
    }

    @Says(in = "Promise 19", words = "NONE: 1.")
    static void netRefused() {
        for (long i : Edges.out(3)) {
            for (int what = 0; what < 6; what++) {
                refused("net", i, what);
            }
        }
        for (long what : Edges.out(6)) {
            refused("net", 0, what);
            refused("net", 3, what);
        }
        Edges.refused(Looms::bare, -1, 1, "net", 0, 5);
    }

    @Says(in = "Promise 20", words = "Of a NET's k-th PIN 0 the PLUG, 1 the CAVITY.")
    static void pinsInTheirOrder() {
        SplicedLoom x = parts();
        int[][] plug = {{0, 1}, {2, 0, 2, 0, 1}, {0, 0, 0}};
        int[][] cavity = {{11, 0}, {2, 1, 0, 0, 0}, {3, 4, 5}};
        for (int i = 0; i < 3; i++) {
            for (int k = 0; k < plug[i].length; k++) {
                Edges.is(x, plug[i][k], "pin", i, k, 0);
                Edges.is(x, cavity[i][k], "pin", i, k, 1);
            }
        }
    }

    @Says(in = "Promise 20", words = "NONE: 1.")
    static void pinRefused() {
        int[] pins = {2, 5, 3};
        for (int i = 0; i < 3; i++) {
            for (long k : Edges.out(pins[i])) {
                refused("pin", i, k, 0);
                refused("pin", i, k, 1);
            }
            for (long what : Edges.out(2)) {
                refused("pin", i, 0, what);
                refused("pin", i, pins[i], what);
            }
        }
        for (long i : Edges.out(3)) {
            refused("pin", i, 0, 1);
            refused("pin", i, i, i);
        }
        Edges.refused(Looms::bare, -1, 1, "pin", 0, 0, 0);
    }
}
