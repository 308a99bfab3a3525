/** Promises 21 to 30. */
public final class VariantsTest {
    // nodes: r, a off r (10), b off a (4), c off a (6), d off r (3)
    private static final String TREE = "board slack 2 joint 5;node r;node a off r right long 10;"
        + "node b off a up long 4;node c off a down long 6;node d off r left long 3;option x;option y;";
    private static final String PLUGS = "plug p on b holes 9 gauge 1 to 9;plug q on c holes 9 gauge 1 to 9;"
        + "plug s on d holes 9 gauge 1 to 9 with x;plug t on r holes 9 gauge 1 to 9 without y;";
    // n: p q always, s with x; m: with y: p and t (there without y only); k: all four; h: p twice, q
    private static final String TEXT = TREE + PLUGS + "net n power gauge 2 of p 0,s 0,q 0;"
        + "net m signal gauge 3 with y of p 1,t 1;net k ground gauge 2 of p 2,q 2,s 2,t 2;"
        + "net h ground gauge 5 without x of p 4,p 5,q 4;build 1";

    public static void main(String[] args) {
        SplicedLoom x = Bench.loomOf(TEXT);
        plugs(x);
        pins(x);
        splice(x);
        wires(x);
        wire(x);
        reach(x);
        total(x);
        bundle(x);
        thickest(x);
        through(x);
        byHand(x);
        refusals(x);
        byOption();
        firstOfSeveral();
        rounds();
        onlyRoot();
        Bench.close("VariantsTest");
    }

    private static void plugs(SplicedLoom x) {
        int[] want = {11, 15, 3, 7};
        for (int variant = 0; variant < 4; variant++) {
            Bench.answers(x, "plugs(" + variant + ")", x.plugs(variant), want[variant]);
        }
    }

    private static void pins(SplicedLoom x) {
        int[][] want = {{5, 0, 11, 7}, {7, 0, 15, 0}, {5, 1, 3, 7}, {7, 1, 7, 0}};
        for (int variant = 0; variant < 4; variant++) {
            for (int net = 0; net < 4; net++) {
                Bench.answers(x, "pins(" + variant + ", " + net + ")", x.pins(variant, net), want[variant][net]);
            }
        }
    }

    private static void splice(SplicedLoom x) {
        // three pins meet at a; p, q, t too; of p, q, s, t both a and r need as much: r, the first
        int[][] want = {{-2, -2, 1, 2}, {1, -2, 0, -2}, {-2, -2, -2, 2}, {1, -2, 1, -2}};
        for (int variant = 0; variant < 4; variant++) {
            for (int net = 0; net < 4; net++) {
                Bench.answers(x, "splice(" + variant + ", " + net + ")", x.splice(variant, net), want[variant][net]);
            }
        }
    }

    private static void wires(SplicedLoom x) {
        int[][] want = {{1, 0, 3, 3}, {3, 0, 4, 0}, {1, 0, 1, 3}, {3, 0, 3, 0}};
        for (int variant = 0; variant < 4; variant++) {
            for (int net = 0; net < 4; net++) {
                Bench.answers(x, "wires(" + variant + ", " + net + ")", x.wires(variant, net), want[variant][net]);
            }
        }
    }

    private static void wire(SplicedLoom x) {
        Bench.answers(x, "of two, to the first", x.wire(0, 0, 0), 14);
        Bench.answers(x, "of two, to the other", x.wire(0, 0, 2), 14);
        Bench.refuses(x, "of two, to one that isn't there", x.wire(0, 0, 1), 5);
        Bench.answers(x, "of three, p", x.wire(1, 0, 0), 4 + 7);
        Bench.answers(x, "of three, s", x.wire(1, 0, 1), 13 + 7);
        Bench.answers(x, "of three, q", x.wire(1, 0, 2), 6 + 7);
        Bench.answers(x, "at the splice itself", x.wire(1, 2, 3), 7);
        Bench.refuses(x, "of one that dangles", x.wire(2, 1, 0), 5);
        Bench.refuses(x, "of one that isn't there", x.wire(0, 1, 0), 5);
        Bench.refuses(x, "no such pin", x.wire(0, 0, 3), 1);
        Bench.refuses(x, "no such pin, -1", x.wire(0, 0, -1), 1);
        Bench.refuses(x, "no such pin ahead of no such variant", x.wire(4, 0, 3), 1);
        Bench.refuses(x, "no such variant", x.wire(4, 0, 0), 2);
        Bench.refuses(x, "no such net", x.wire(0, 4, 0), 1);
    }

    private static void reach(SplicedLoom x) {
        Bench.answers(x, "reach(0, 0, 0)", x.reach(0, 0, 0), 14 + 16);
        Bench.answers(x, "reach(1, 0, 0)", x.reach(1, 0, 0), 14 + 16 + 3);
        Bench.answers(x, "reach(1, 0, 1)", x.reach(1, 0, 1), 4 + 6 + 13);
        Bench.answers(x, "reach of one that dangles", x.reach(2, 1, 4), 17);
        Bench.answers(x, "reach of one that isn't there", x.reach(0, 1, 4), 0);
        Bench.answers(x, "reach of two pins at one node", x.reach(0, 3, 4), 17 + 17 + 19);
        Bench.refuses(x, "no such node", x.reach(0, 0, 5), 1);
        Bench.refuses(x, "no such node, -1", x.reach(9, 0, -1), 1);
        Bench.refuses(x, "no such net", x.reach(9, 4, 0), 1);
        Bench.refuses(x, "no such variant", x.reach(9, 0, 0), 2);
    }

    private static void total(SplicedLoom x) {
        // variant 0: n 14; k at a: 4 + 6 + 10 + 3 * 7 = 41; h at b: 0 + 0 + 10 + 3 * 7 = 31
        Bench.answers(x, "total(0, 0)", x.total(0, 0), 86);
        Bench.answers(x, "total(0, 2)", x.total(0, 2), 55);
        Bench.answers(x, "total(0, 5)", x.total(0, 5), 31);
        Bench.answers(x, "total(0, 9)", x.total(0, 9), 0);
        // variant 1: n at a: 23 + 21 = 44; k at r: 14 + 16 + 3 + 0 + 28 = 61
        Bench.answers(x, "total(1, 0)", x.total(1, 0), 105);
        Bench.answers(x, "a net that dangles has no length", x.total(2, 3), 0);
        Bench.refuses(x, "total(0, 10)", x.total(0, 10), 1);
        Bench.refuses(x, "total(0, -1)", x.total(0, -1), 1);
        Bench.refuses(x, "gauge ahead of variant", x.total(4, 10), 1);
        Bench.refuses(x, "total(4, 9)", x.total(4, 9), 2);
        Bench.refuses(x, "total(-1, 0)", x.total(-1, 0), 2);
    }

    private static void bundle(SplicedLoom x) {
        // variant 0: n (2) b-c; k (2) a to b, c, r; h (5) b to c
        int[][] count = {{0, 1, 3, 3, 0}, {0, 3, 2, 2, 2}, {0, 0, 3, 3, 0}, {0, 2, 2, 2, 2}};
        for (int variant = 0; variant < 4; variant++) {
            for (int node = 1; node < 5; node++) {
                Bench.answers(x, "count(" + variant + ", " + node + ")", x.bundle(variant, node, 0),
                    count[variant][node]);
            }
        }
        Bench.answers(x, "body(0, 1)", x.bundle(0, 1, 1), 4);
        Bench.answers(x, "body(0, 2)", x.bundle(0, 2, 1), 4 + 4 + 25);
        Bench.answers(x, "body(0, 3)", x.bundle(0, 3, 1), 4 + 4 + 25);
        Bench.answers(x, "body(0, 4)", x.bundle(0, 4, 1), 0);
        Bench.answers(x, "body(1, 1)", x.bundle(1, 1, 1), 12);
        Bench.answers(x, "round(0, 4)", x.bundle(0, 4, 2), 0);
        Bench.answers(x, "round(0, 2)", x.bundle(0, 2, 2), 7);
        Bench.refuses(x, "the root", x.bundle(0, 0, 0), 1);
        Bench.refuses(x, "bundle(0, 5, 0)", x.bundle(0, 5, 0), 1);
        Bench.refuses(x, "bundle(0, -1, 0)", x.bundle(0, -1, 0), 1);
        Bench.refuses(x, "bundle(0, 1, 3)", x.bundle(0, 1, 3), 1);
        Bench.refuses(x, "bundle(4, 1, -1)", x.bundle(4, 1, -1), 1);
        Bench.refuses(x, "bundle(4, 1, 0)", x.bundle(4, 1, 0), 2);
    }

    private static void thickest(SplicedLoom x) {
        Bench.answers(x, "thickest(0), of two the first", x.thickest(0), 2);
        Bench.answers(x, "thickest(1)", x.thickest(1), 1);
        Bench.refuses(x, "thickest(4)", x.thickest(4), 2);
        Bench.refuses(x, "thickest(-1)", x.thickest(-1), 2);
    }

    private static void through(SplicedLoom x) {
        Bench.answers(x, "through(0, 1)", x.through(0, 1), 4);
        Bench.answers(x, "through(0, 2)", x.through(0, 2), 13);
        Bench.answers(x, "through(1, 4)", x.through(1, 4), 5);
        Bench.answers(x, "through(0, 4)", x.through(0, 4), 0);
        Bench.refuses(x, "through(0, 0)", x.through(0, 0), 1);
        Bench.refuses(x, "through(0, 5)", x.through(0, 5), 1);
        Bench.refuses(x, "through(4, 0)", x.through(4, 0), 1);
        Bench.refuses(x, "through(4, 1)", x.through(4, 1), 2);
    }

    private static void byHand(SplicedLoom x) {
        x.splices(0, 4);
        Bench.answers(x, "by hand: of three", x.splice(1, 0), 4);
        Bench.answers(x, "by hand: of two there is none", x.splice(0, 0), -2);
        Bench.answers(x, "by hand: wire of three", x.wire(1, 0, 0), 17 + 7);
        Bench.answers(x, "by hand: wire of two", x.wire(0, 0, 0), 14);
        Bench.answers(x, "by hand: reach is of any node", x.reach(1, 0, 1), 23);
        Bench.answers(x, "by hand: count", x.bundle(1, 4, 0), 3);
        Bench.answers(x, "by hand: total", x.total(1, 2), 17 + 19 + 21 + 61);
        x.splices(0, -1);
        Bench.answers(x, "not by hand", x.splice(1, 0), 1);
    }

    private static void refusals(SplicedLoom x) {
        Bench.refuses(x, "plugs(4)", x.plugs(4), 2);
        Bench.refuses(x, "plugs(-1)", x.plugs(-1), 2);
        Bench.refuses(x, "pins(0, 4)", x.pins(0, 4), 1);
        Bench.refuses(x, "pins(4, 4)", x.pins(4, 4), 1);
        Bench.refuses(x, "pins(4, 0)", x.pins(4, 0), 2);
        Bench.refuses(x, "splice(4, -1)", x.splice(4, -1), 1);
        Bench.refuses(x, "splice(4, 0)", x.splice(4, 0), 2);
        Bench.refuses(x, "wires(0, 4)", x.wires(0, 4), 1);
        Bench.refuses(x, "wires(-1, 0)", x.wires(-1, 0), 2);
    }

    /** The first of all is there by an option, too. */
    private static void byOption() {
        SplicedLoom x = Bench.loomOf("board slack 0 joint 0;node r;option x;option y;"
            + "plug p on r holes 9 gauge 1 to 9 with x;plug q on r holes 9 gauge 1 to 9 without x;"
            + "net n power gauge 1 without y of p 0,p 1,q 0;net m power gauge 1 with y of q 1,p 2");
        int[] plugs = {2, 1, 2, 1};
        int[][] pins = {{4, 0}, {3, 0}, {0, 1}, {0, 2}};
        for (int variant = 0; variant < 4; variant++) {
            Bench.answers(x, "by option: plugs(" + variant + ")", x.plugs(variant), plugs[variant]);
            for (int net = 0; net < 2; net++) {
                Bench.answers(x, "by option: pins(" + variant + ", " + net + ")", x.pins(variant, net),
                    pins[variant][net]);
            }
        }
    }

    private static void firstOfSeveral() {
        SplicedLoom x = Bench.loomOf("board slack 0 joint 0;node r;node a off r up long 5;node b off a up long 5;"
            + "plug p on a holes 2 gauge 1 to 9;plug q on b holes 3 gauge 1 to 9;"
            + "net n power gauge 1 of q 0,q 1,p 0,p 1");
        Bench.answers(x, "a and b need as much", x.splice(0, 0), 1);
        Bench.answers(x, "wire to b", x.wire(0, 0, 0), 5);
        Bench.answers(x, "wire to a", x.wire(0, 0, 2), 0);
        Bench.answers(x, "no wire runs to the root", x.bundle(0, 1, 0), 0);
        Bench.refuses(x, "one variant without options", x.plugs(1), 2);
    }

    /** The least whole whose square is no less than 1.2 times the body. */
    private static void rounds() {
        int[] want = {0, 2, 3, 4, 5, 6, 7, 8, 9, 10};
        for (int gauge = 1; gauge < 10; gauge++) {
            SplicedLoom x = Bench.loomOf("board slack 0 joint 0;node r;node a off r up long 5;"
                + "plug p on a holes 2 gauge 1 to 9;plug q on r holes 3 gauge 1 to 9;"
                + "net n power gauge " + gauge + " of q 0,p 0");
            Bench.answers(x, "body of gauge " + gauge, x.bundle(0, 1, 1), gauge * gauge);
            Bench.answers(x, "round of gauge " + gauge, x.bundle(0, 1, 2), want[gauge]);
        }
        SplicedLoom x = Bench.loomOf("board slack 0 joint 0;node r;node a off r up long 5;"
            + "plug p on a holes 9 gauge 1 to 9;plug q on r holes 9 gauge 1 to 9;"
            + "net n power gauge 5 of q 0,p 0;net m power gauge 1 of q 1,p 1;net k power gauge 2 of q 2,p 2");
        Bench.answers(x, "body 30", x.bundle(0, 1, 1), 30);
        Bench.answers(x, "12 times 30 by 10 is a square", x.bundle(0, 1, 2), 6);
    }

    private static void onlyRoot() {
        SplicedLoom x = Bench.loomOf("board slack 4 joint 1;node r;plug p on r holes 3 gauge 1 to 9;"
            + "net n power gauge 1 of p 0,p 1;net m power gauge 2 of p 0,p 1,p 2");
        Bench.answers(x, "no bundles", x.thickest(0), -2);
        Bench.answers(x, "two pins at one node", x.wire(0, 0, 0), 8);
        Bench.answers(x, "three pins at one node", x.total(0, 2), 15);
        Bench.refuses(x, "bundle(0, 0, 0)", x.bundle(0, 0, 0), 1);
        SplicedLoom bare = Bench.loomOf("board slack 4 joint 1;node r;node a off r up long 1;node b off r up long 2;"
            + "plug p on r holes 3 gauge 1 to 9;net n power gauge 1 of p 0,p 1");
        Bench.answers(bare, "all bodies are 0", bare.thickest(0), 1);
    }
}
