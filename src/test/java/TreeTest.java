/** Promises 8 to 17. */
public final class TreeTest {
    private static final String TAIL = ";plug p on r holes 2 gauge 1 to 9;net n power gauge 1 of p 0,p 1";
    private static final String HEAD = "board slack 0 joint 0;node r;";

    // r(0,0) - a right 10 (10,0) - b up 5 (10,5) - c left 10 (0,5); d off r up 5 (0,5); e off a left 4 (6,0);
    // f off r down 3 (0,-3); g off r left 2 (-2,0)
    private static final String BOARD = HEAD + "node a off r right long 10;node b off a up long 5;"
        + "node c off b left long 10;node d off r up long 5;node e off a left long 4;node f off r down long 3;"
        + "node g off r left long 2" + TAIL;

    public static void main(String[] args) {
        SplicedLoom x = Bench.loomOf(BOARD);
        nodes(x);
        fars(x);
        ways(x);
        sides(x);
        places(x);
        meets(x);
        lies(x);
        extents(x);
        onlyRoot();
        crossings();
        shortest();
        anotherHarness();
        Bench.close("TreeTest");
    }

    private static void nodes(SplicedLoom x) {
        int[] off = {-2, 0, 1, 2, 0, 1, 0, 0};
        int[] length = {0, 10, 5, 10, 5, 4, 3, 2};
        int[] many = {4, 2, 1, 0, 0, 0, 0, 0};
        for (int i = 0; i < 8; i++) {
            Bench.answers(x, "node(" + i + ", 0)", x.node(i, 0), off[i]);
            Bench.answers(x, "node(" + i + ", 1)", x.node(i, 1), length[i]);
            Bench.answers(x, "node(" + i + ", 2)", x.node(i, 2), many[i]);
        }
        Bench.refuses(x, "node(8, 0)", x.node(8, 0), 1);
        Bench.refuses(x, "node(-1, 0)", x.node(-1, 0), 1);
        Bench.refuses(x, "node(0, 3)", x.node(0, 3), 1);
        Bench.refuses(x, "node(0, -1)", x.node(0, -1), 1);
    }

    private static void fars(SplicedLoom x) {
        Bench.answers(x, "far(3, 4)", x.far(3, 4), 30);
        Bench.answers(x, "far(4, 3)", x.far(4, 3), 30);
        Bench.answers(x, "far(5, 3)", x.far(5, 3), 19);
        Bench.answers(x, "far(0, 0)", x.far(0, 0), 0);
        Bench.answers(x, "far(6, 7)", x.far(6, 7), 5);
        Bench.answers(x, "span()", x.span(), 30);
        Bench.refuses(x, "far(8, 0)", x.far(8, 0), 1);
        Bench.refuses(x, "far(0, 8)", x.far(0, 8), 1);
        Bench.refuses(x, "far(0, -1)", x.far(0, -1), 1);
    }

    private static void ways(SplicedLoom x) {
        int[] want = {3, 2, 1, 0, 4};
        for (int k = 0; k < 5; k++) {
            Bench.answers(x, "way(3, 4, " + k + ")", x.way(3, 4, k), want[k]);
            Bench.answers(x, "way(4, 3, " + k + ")", x.way(4, 3, k), want[4 - k]);
        }
        Bench.refuses(x, "way(3, 4, 5)", x.way(3, 4, 5), 1);
        Bench.refuses(x, "way(3, 4, -1)", x.way(3, 4, -1), 1);
        Bench.refuses(x, "way(3, 4, 2000000000)", x.way(3, 4, 2000000000), 1);
        Bench.answers(x, "way(2, 2, 0)", x.way(2, 2, 0), 2);
        Bench.refuses(x, "way(2, 2, 1)", x.way(2, 2, 1), 1);
        Bench.refuses(x, "way(8, 2, 0)", x.way(8, 2, 0), 1);
        Bench.refuses(x, "way(2, 8, 0)", x.way(2, 8, 0), 1);
        Bench.answers(x, "way(5, 3, 1)", x.way(5, 3, 1), 1);
        Bench.answers(x, "way(0, 3, 2)", x.way(0, 3, 2), 2);
    }

    private static void sides(SplicedLoom x) {
        int[] want = {-1, 1, 0, 3, 0, 3, 2, 3};
        for (int i = 1; i < 8; i++) {
            Bench.answers(x, "side(" + i + ")", x.side(i), want[i]);
        }
        Bench.refuses(x, "side of the root", x.side(0), 1);
        Bench.refuses(x, "side(8)", x.side(8), 1);
        Bench.refuses(x, "side(-1)", x.side(-1), 1);
    }

    private static void places(SplicedLoom x) {
        int[] wantX = {0, 10, 10, 0, 0, 6, 0, -2};
        int[] wantY = {0, 0, 5, 5, 5, 0, -3, 0};
        for (int i = 0; i < 8; i++) {
            Bench.answers(x, "place(" + i + ", 0)", x.place(i, 0), wantX[i]);
            Bench.answers(x, "place(" + i + ", 1)", x.place(i, 1), wantY[i]);
        }
        Bench.refusesNumber(x, "place(8, 0)", x.place(8, 0), 1);
        Bench.refusesNumber(x, "place(-1, 0)", x.place(-1, 0), 1);
        Bench.refusesNumber(x, "place(0, 2)", x.place(0, 2), 1);
        Bench.refusesNumber(x, "place(0, -1)", x.place(0, -1), 1);
    }

    private static void meets(SplicedLoom x) {
        Bench.answers(x, "a and b only join", x.meet(1, 2), 0);
        Bench.answers(x, "c ends where d does, at unlike nodes", x.meet(3, 4), 1);
        Bench.answers(x, "d, c", x.meet(4, 3), 1);
        Bench.answers(x, "e goes back on a", x.meet(1, 5), 1);
        Bench.answers(x, "d and f only join at the root", x.meet(4, 6), 0);
        Bench.answers(x, "g and a, opposite", x.meet(7, 1), 0);
        Bench.answers(x, "f and c, far", x.meet(6, 3), 0);
        Bench.answers(x, "meetings()", x.meetings(), 2);
        Bench.refuses(x, "a bundle and itself", x.meet(1, 1), 1);
        Bench.refuses(x, "the root", x.meet(0, 1), 1);
        Bench.refuses(x, "the root, second", x.meet(1, 0), 1);
        Bench.refuses(x, "meet(1, 8)", x.meet(1, 8), 1);
        Bench.refuses(x, "meet(-1, 1)", x.meet(-1, 1), 1);
    }

    private static void lies(SplicedLoom x) {
        Bench.answers(x, "lying(0, 0)", x.lying(0, 0), 1 << 1 | 1 << 4 | 1 << 6 | 1 << 7);
        Bench.answers(x, "lying(0, 5)", x.lying(0, 5), 1 << 3 | 1 << 4);
        Bench.answers(x, "lying(6, 0)", x.lying(6, 0), 1 << 1 | 1 << 5);
        Bench.answers(x, "lying(5, 0)", x.lying(5, 0), 1 << 1);
        Bench.answers(x, "lying(10, 0)", x.lying(10, 0), 1 << 1 | 1 << 2 | 1 << 5);
        Bench.answers(x, "lying(11, 0)", x.lying(11, 0), 0);
        Bench.answers(x, "lying(0, -3)", x.lying(0, -3), 1 << 6);
        Bench.answers(x, "lying(0, -4)", x.lying(0, -4), 0);
        Bench.answers(x, "lying far out", x.lying(Integer.MAX_VALUE, Integer.MIN_VALUE), 0);
    }

    private static void extents(SplicedLoom x) {
        int[] want = {-2, 10, -3, 5};
        for (int what = 0; what < 4; what++) {
            Bench.answers(x, "extent(" + what + ")", x.extent(what), want[what]);
        }
        Bench.refusesNumber(x, "extent(4)", x.extent(4), 1);
        Bench.refusesNumber(x, "extent(-1)", x.extent(-1), 1);
    }

    private static void onlyRoot() {
        SplicedLoom x = Bench.loomOf(HEAD.substring(0, HEAD.length() - 1) + TAIL);
        Bench.answers(x, "span of a root", x.span(), 0);
        Bench.answers(x, "meetings of a root", x.meetings(), 0);
        Bench.answers(x, "lying of a root", x.lying(0, 0), 0);
        Bench.answers(x, "extent of a root", x.extent(1), 0);
        Bench.answers(x, "way of a root", x.way(0, 0, 0), 0);
        Bench.refuses(x, "way of a root, 1", x.way(0, 0, 1), 1);
        Bench.answers(x, "node of a root", x.node(0, 2), 0);
    }

    /** Bundles that cross, lie on one another, touch, or go the same side from one node. */
    private static void crossings() {
        SplicedLoom x = Bench.loomOf(HEAD + "node a off r right long 10;node b off r right long 4;"
            + "node c off b up long 3;node d off c right long 2;node e off d down long 6;node f off e left long 6;"
            + "node g off f up long 9" + TAIL);
        // a (10,0) b (4,0) c (4,3) d (6,3) e (6,-3) f (0,-3) g (0,6)
        Bench.answers(x, "both right from the root", x.meet(1, 2), 1);
        Bench.answers(x, "e crosses a", x.meet(1, 5), 1);
        Bench.answers(x, "e does not reach b", x.meet(2, 5), 0);
        Bench.answers(x, "c begins on a", x.meet(1, 3), 1);
        Bench.answers(x, "g goes over the root: a", x.meet(7, 1), 1);
        Bench.answers(x, "g goes over the root: b", x.meet(7, 2), 1);
        Bench.answers(x, "c and e side by side", x.meet(3, 5), 0);
        Bench.answers(x, "e and f join", x.meet(5, 6), 0);
        Bench.answers(x, "meetings", x.meetings(), 5);
    }

    /** Bundles of length 1: one point more than the node at which both end is enough. */
    private static void shortest() {
        SplicedLoom x = Bench.loomOf(HEAD + "node a off r up long 1;node b off r up long 1;node c off a down long 1;"
            + "node d off r left long 1;node e off c left long 1" + TAIL);
        Bench.answers(x, "a and b lie on one another", x.meet(1, 2), 1);
        Bench.answers(x, "a and c lie on one another", x.meet(1, 3), 1);
        Bench.answers(x, "b and c lie on one another", x.meet(2, 3), 1);
        Bench.answers(x, "a and d only join", x.meet(1, 4), 0);
        Bench.answers(x, "c ends at the root's place, not at the root", x.meet(3, 4), 1);
        Bench.answers(x, "d and e lie on one another", x.meet(4, 5), 1);
        Bench.answers(x, "c and e only join", x.meet(3, 5), 0);
    }

    /** Nothing of a harness is left in the next one, nor in the one after it. */
    private static void anotherHarness() {
        SplicedLoom x = Bench.loomOf(BOARD);
        Bench.tell(x, BOARD);
        for (int turn = 0; turn < 2; turn++) {
            Bench.due("a smaller one", Bench.tell(x, HEAD + "node a off r up long 2" + TAIL), 1);
            Bench.answers(x, "nodes", x.about(2), 2);
            Bench.answers(x, "off the root", x.node(0, 2), 1);
            Bench.refuses(x, "node(2, 0)", x.node(2, 0), 1);
            Bench.refuses(x, "named(b)", x.named('b'), 1);
            Bench.answers(x, "meetings", x.meetings(), 0);
            Bench.answers(x, "lying", x.lying(0, 0), 2);
            Bench.answers(x, "span", x.span(), 2);
            int[] want = {0, 0, 0, 2};
            for (int what = 0; what < 4; what++) {
                Bench.answers(x, "extent(" + what + ")", x.extent(what), want[what]);
            }
        }
    }
}
