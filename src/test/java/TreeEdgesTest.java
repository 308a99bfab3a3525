/** Promises 8 to 17, and what Term II says of the tree: their edges. */
public final class TreeEdgesTest {
    private static final long MIN = Edges.MIN;
    private static final long MAX = Edges.MAX;
    private static final String TAIL = "plug p on r holes 2 gauge 1 to 9;" + Looms.N;

    /*
     * r 0, 0; a (1) 10, 0; b (2) 10, 5; c (3) 0, 5; d (4) 0, 5 as well; e (5) 6, 0, back on a; f (6) 0, -3; g (7) -2, 0
     */
    private static final String BOARD = Looms.R + "node a off r right long 10;node b off a up long 5;"
        + "node c off b left long 10;node d off r up long 5;node e off a left long 4;node f off r down long 3;"
        + "node g off r left long 2;" + TAIL;
    private static final String ROOT = Looms.R + TAIL;

    public static void main(String[] args) {
        Edges.run(TreeEdgesTest.class);
    }

    private static SplicedLoom board() {
        return Looms.told(BOARD);
    }

    private static SplicedLoom root() {
        return Looms.told(ROOT);
    }

    private static SplicedLoom usedRoot() {
        return Looms.used(ROOT);
    }

    private static void refused(long none, String call, long... with) {
        Edges.refused(() -> Looms.used(BOARD), none, 1, call, with);
    }

    /** The ROOT and thirteen BUNDLES, one behind another, each 999 long. */
    private static SplicedLoom longest(String side) {
        StringBuilder text = new StringBuilder(Looms.R);
        String off = "r";
        for (int i = 1; i < 14; i++) {
            String name = "n" + (char) ('a' + i);
            text.append("node ").append(name).append(" off ").append(off).append(' ').append(side).append(" long 999;");
            off = name;
        }
        return Looms.told(text + TAIL);
    }

    /** The ROOT and thirteen BUNDLES off it, all to one side. */
    private static SplicedLoom allUp() {
        StringBuilder text = new StringBuilder(Looms.R);
        for (int i = 1; i < 14; i++) {
            text.append("node n").append((char) ('a' + i)).append(" off r up long ").append(i).append(';');
        }
        return Looms.told(text + TAIL);
    }

    // ---- terms

    @Says(in = "II", words = "WAY between two NODES: BUNDLES on the one path of the tree.")
    static void wayThroughTheTree() {
        SplicedLoom x = board();
        // c and d are at one PLACE, but the way between them goes by b, a, r
        int[] want = {3, 2, 1, 0, 4};
        for (int k = 0; k < want.length; k++) {
            Edges.is(x, want[k], "way", 3, 4, k);
            Edges.is(x, want[k], "way", 4, 3, 4 - k);
        }
        Edges.is(x, 1, "way", 5, 2, 1);
        Edges.is(x, 2, "way", 5, 2, 2);
    }

    @Says(in = "II", words = "FAR: their lengths together.")
    static void lengthsTogether() {
        SplicedLoom x = board();
        Edges.is(x, 30, "far", 3, 4);
        Edges.is(x, 9, "far", 5, 2);
        Edges.is(x, 14, "far", 5, 0);
        Edges.is(x, 5, "far", 6, 7);
        Edges.is(x, 0, "far", 3, 3);
    }

    @Says(in = "II", words = "PLACES on the board: the ROOT at 0, 0;")
    static void placeOfTheRoot() {
        for (SplicedLoom x : new SplicedLoom[] {board(), root(), longest("down")}) {
            Edges.is(x, 0, "place", 0, 0);
            Edges.is(x, 0, "place", 0, 1);
        }
    }

    @Says(in = "II", words = "each other NODE as far up (y more), right (x more), down, left of the one it is off as its BUNDLE is long.")
    static void placesToEachSide() {
        int[][] want = {{0, 12987}, {12987, 0}, {0, -12987}, {-12987, 0}};
        String[] sides = {"up", "right", "down", "left"};
        for (int side = 0; side < 4; side++) {
            SplicedLoom x = longest(sides[side]);
            Edges.is(x, want[side][0], "place", 13, 0);
            Edges.is(x, want[side][1], "place", 13, 1);
            Edges.is(x, want[side][0] / 13, "place", 1, 0);
            Edges.is(x, want[side][1] / 13, "place", 1, 1);
        }
        SplicedLoom y = board();
        y.stretch(1, 1);
        // all that is beyond a goes with it
        Edges.is(y, -9, "place", 3, 0);
        Edges.is(y, 5, "place", 3, 1);
        Edges.is(y, -3, "place", 5, 0);
        Edges.is(y, 0, "place", 4, 0);
    }

    @Says(in = "II", words = "A BUNDLE lies on all points of whole x, y from the one to the other, both too.")
    static void bothEndsOfABundle() {
        SplicedLoom x = board();
        // b: from 10, 0 to 10, 5
        int[] b = {0, 4 | 2 | 32, 4, 4, 4, 4, 4 | 8, 0};
        for (int y = -1; y <= 6; y++) {
            Edges.is(x, b[y + 1], "lying", 10, y);
        }
        // f goes down, g left, c left
        Edges.is(x, 64, "lying", 0, -3);
        Edges.is(x, 0, "lying", 0, -4);
        Edges.is(x, 128, "lying", -2, 0);
        Edges.is(x, 0, "lying", -3, 0);
        Edges.is(x, 8 | 16, "lying", 0, 5);
        Edges.is(x, 0, "lying", -1, 5);
        Edges.is(x, 8, "lying", 9, 5);
        Edges.is(x, 0, "lying", 11, 5);
        Edges.is(x, 0, "lying", 5, 4);
        Edges.is(x, 0, "lying", 9, 4);
        Edges.is(x, 0, "lying", 11, 4);
    }

    @Says(in = "II", words = "Two of them MEET, if a point is on both that isn't the PLACE of a NODE at which both end.")
    static void nodeAtWhichBothEndIsNoMeeting() {
        SplicedLoom x = board();
        Edges.is(x, 0, "meet", 1, 2);
        Edges.is(x, 0, "meet", 2, 3);
        Edges.is(x, 0, "meet", 1, 4);
        Edges.is(x, 0, "meet", 1, 7);
        Edges.is(x, 0, "meet", 4, 6);
        Edges.is(x, 0, "meet", 2, 5);
    }

    @Says(in = "II", words = "Two of them MEET, if a point is on both that isn't the PLACE of a NODE at which both end.")
    static void onePointMoreIsAMeeting() {
        SplicedLoom x = Looms.told(Looms.R + "node a off r up long 1;node b off r up long 1;node c off a down long 1;"
            + "node d off r left long 1;node e off c left long 1;" + TAIL);
        Edges.is(x, 1, "meet", 1, 2);
        Edges.is(x, 1, "meet", 1, 3);
        Edges.is(x, 1, "meet", 2, 3);
        Edges.is(x, 0, "meet", 1, 4);
        // c ends at the PLACE of the ROOT, but not at the ROOT
        Edges.is(x, 1, "meet", 3, 4);
        Edges.is(x, 1, "meet", 4, 5);
        Edges.is(x, 0, "meet", 3, 5);
        Edges.is(x, 1, "meet", 2, 5);
    }

    @Says(in = "II", words = "Two of them MEET, if a point is on both that isn't the PLACE of a NODE at which both end.")
    static void crossingAndPassingBy() {
        // a right to 10, 0; b up to 10, 3; c left to 5, 3; d down by the length told
        String start = Looms.R + "node a off r right long 10;node b off a up long 3;node c off b left long 5;"
            + "node d off c down long ";
        Edges.is(Looms.told(start + "2;" + TAIL), 0, "meet", 1, 4);
        Edges.is(Looms.told(start + "3;" + TAIL), 1, "meet", 1, 4);
        Edges.is(Looms.told(start + "4;" + TAIL), 1, "meet", 1, 4);
        Edges.is(Looms.told(start + "4;" + TAIL), 1, "meet", 4, 1);
        // one behind another on one line: a gap of one point, none
        String line = Looms.R + "node a off r right long 3;node b off r up long 1;node c off b right long 9;"
            + "node d off c down long 1;node e off d left long ";
        Edges.is(Looms.told(line + "5;" + TAIL), 0, "meet", 1, 5);
        Edges.is(Looms.told(line + "6;" + TAIL), 1, "meet", 1, 5);
        Edges.is(Looms.told(line + "6;" + TAIL), 0, "meet", 3, 5);
        Edges.is(Looms.told(line + "6;" + TAIL), 0, "meet", 1, 3);
    }

    // ---- promises

    @Says(in = "The calls", words = "---- the tree: 1 (no such NODE).")
    static void noSuchNode() {
        for (long node : Edges.out(8)) {
            refused(-1, "node", node, 0);
            refused(-1, "far", node, 0);
            refused(-1, "side", node);
            refused(MIN, "place", node, 0);
        }
        // as many NODES as there may be, but not in this one
        refused(-1, "node", 13, 0);
        refused(-1, "node", 14, 0);
        refused(-1, "node", 1L << 31, 0);
    }

    @Says(in = "Promise 8", words = "Of a NODE 0 the NODE it is off (-2 the ROOT),")
    static void offWhichNode() {
        SplicedLoom x = board();
        int[] want = {-2, 0, 1, 2, 0, 1, 0, 0};
        for (int i = 0; i < 8; i++) {
            Edges.is(x, want[i], "node", i, 0);
        }
        Edges.is(longest("up"), 12, "node", 13, 0);
    }

    @Says(in = "Promise 8", words = "1 the length of its BUNDLE (0 of the ROOT),")
    static void lengthOfTheBundle() {
        SplicedLoom x = board();
        int[] want = {0, 10, 5, 10, 5, 4, 3, 2};
        for (int i = 0; i < 8; i++) {
            Edges.is(x, want[i], "node", i, 1);
        }
        Edges.is(longest("up"), 999, "node", 13, 1);
    }

    @Says(in = "Promise 8", words = "2 how many are off it.")
    static void howManyAreOff() {
        SplicedLoom x = board();
        int[] want = {4, 2, 1, 0, 0, 0, 0, 0};
        for (int i = 0; i < 8; i++) {
            Edges.is(x, want[i], "node", i, 2);
        }
        Edges.is(root(), 0, "node", 0, 2);
        Edges.is(allUp(), 13, "node", 0, 2);
        Edges.is(longest("up"), 1, "node", 0, 2);
        Edges.is(longest("up"), 0, "node", 13, 2);
    }

    @Says(in = "Promise 8", words = "NONE: 1 (what, too).")
    static void nodeRefused() {
        for (long what : Edges.out(3)) {
            refused(-1, "node", 0, what);
        }
        for (long node : Edges.out(8)) {
            refused(-1, "node", node, 2);
        }
        Edges.refused(TreeEdgesTest::usedRoot, -1, 1, "node", 1, 0);
        Edges.refused(Looms::bare, -1, 1, "node", 0, 0);
    }

    @Says(in = "Promise 9", words = "FAR of two.")
    static void farOfTwo() {
        SplicedLoom x = longest("left");
        Edges.is(x, 12987, "far", 0, 13);
        Edges.is(x, 12987, "far", 13, 0);
        Edges.is(x, 0, "far", 13, 13);
        Edges.is(x, 999, "far", 12, 13);
        Edges.is(root(), 0, "far", 0, 0);
        SplicedLoom y = board();
        y.stretch(2, 999);
        Edges.is(y, 1024, "far", 3, 4);
        Edges.is(y, 999, "far", 2, 1);
        Edges.is(y, 15, "far", 4, 1);
    }

    @Says(in = "Promise 9", words = "NONE: 1.")
    static void farRefused() {
        for (long node : Edges.out(8)) {
            refused(-1, "far", node, 1);
            refused(-1, "far", 1, node);
            refused(-1, "far", node, node);
        }
        Edges.refused(Looms::bare, -1, 1, "far", 0, 0);
    }

    @Says(in = "Promise 10", words = "The k-th NODE on the way from one to another one (0: the first itself).")
    static void nodesOnTheWay() {
        SplicedLoom x = longest("down");
        for (int k = 0; k < 14; k++) {
            Edges.is(x, k, "way", 0, 13, k);
            Edges.is(x, 13 - k, "way", 13, 0, k);
        }
        Edges.is(x, 5, "way", 5, 5, 0);
        Edges.is(root(), 0, "way", 0, 0, 0);
        Edges.is(allUp(), 0, "way", 13, 1, 1);
        Edges.is(allUp(), 1, "way", 13, 1, 2);
    }

    @Says(in = "Promise 10", words = "NONE: 1 (k, too).")
    static void wayRefused() {
        for (long k : Edges.out(5)) {
            refused(-1, "way", 3, 4, k);
        }
        refused(-1, "way", 4, 3, 5);
        for (long k : Edges.out(2)) {
            refused(-1, "way", 1, 2, k);
        }
        for (long k : Edges.out(1)) {
            refused(-1, "way", 2, 2, k);
            Edges.refused(TreeEdgesTest::usedRoot, -1, 1, "way", 0, 0, k);
        }
        for (long node : Edges.out(8)) {
            refused(-1, "way", node, 0, 0);
            refused(-1, "way", 0, node, 0);
        }
    }

    @Says(in = "Promise 11", words = "The SIDE to which a BUNDLE goes (0 up, 1 right, 2 down, 3 left; by its NODE, not the ROOT).")
    static void sidesOfBundles() {
        SplicedLoom x = board();
        int[] want = {-1, 1, 0, 3, 0, 3, 2, 3};
        for (int i = 1; i < 8; i++) {
            Edges.is(x, want[i], "side", i);
        }
        refused(-1, "side", 0);
        Edges.refused(TreeEdgesTest::usedRoot, -1, 1, "side", 0);
    }

    @Says(in = "Promise 11", words = "NONE: 1.")
    static void sideRefused() {
        for (long node : Edges.out(8)) {
            refused(-1, "side", node);
        }
        Edges.refused(TreeEdgesTest::usedRoot, -1, 1, "side", 1);
        Edges.refused(Looms::bare, -1, 1, "side", 1);
    }

    @Says(in = "Promise 12", words = "PLACE of a NODE: x (what 0), y (1).")
    static void placesByXAndY() {
        SplicedLoom x = board();
        int[][] want = {{0, 0}, {10, 0}, {10, 5}, {0, 5}, {0, 5}, {6, 0}, {0, -3}, {-2, 0}};
        for (int i = 0; i < 8; i++) {
            Edges.is(x, want[i][0], "place", i, 0);
            Edges.is(x, want[i][1], "place", i, 1);
        }
        // a place of -1 is none that is refused
        SplicedLoom y = Looms.told(Looms.R + "node a off r left long 1;node b off a down long 1;" + TAIL);
        Edges.is(y, -1, "place", 1, 0);
        Edges.is(y, -1, "place", 2, 1);
    }

    @Says(in = "Promise 12", words = "Integer.MIN_VALUE: 1 (what, too).")
    static void placeRefused() {
        for (long what : Edges.out(2)) {
            refused(MIN, "place", 1, what);
        }
        for (long node : Edges.out(8)) {
            refused(MIN, "place", node, 0);
            refused(MIN, "place", node, 1);
        }
        Edges.refused(Looms::bare, MIN, 1, "place", 0, 1);
    }

    @Says(in = "Promise 13", words = "1 if two unlike BUNDLES MEET, 0.")
    static void meetOrNot() {
        SplicedLoom x = board();
        Edges.is(x, 1, "meet", 3, 4);
        Edges.is(x, 1, "meet", 4, 3);
        Edges.is(x, 1, "meet", 1, 5);
        Edges.is(x, 1, "meet", 5, 1);
        Edges.is(x, 0, "meet", 6, 3);
        Edges.is(x, 0, "meet", 3, 6);
        x.stretch(4, 4);
        Edges.is(x, 0, "meet", 3, 4);
        x.undo();
        Edges.is(x, 1, "meet", 3, 4);
    }

    @Says(in = "Promise 13", words = "NONE: 1 (no such two).")
    static void meetRefused() {
        for (int i = 0; i < 8; i++) {
            refused(-1, "meet", i, i);
        }
        refused(-1, "meet", 0, 1);
        refused(-1, "meet", 1, 0);
        for (long node : Edges.out(8)) {
            refused(-1, "meet", node, 1);
            refused(-1, "meet", 1, node);
            refused(-1, "meet", node, node);
        }
        Edges.refused(TreeEdgesTest::usedRoot, -1, 1, "meet", 0, 0);
        Edges.refused(Looms::bare, -1, 1, "meet", 1, 2);
    }

    @Says(in = "Promise 14", words = "How many twos of BUNDLES MEET.")
    static void noneSomeAndAllMeet() {
        Edges.is(root(), 0, "meetings");
        Edges.is(longest("up"), 0, "meetings");
        Edges.is(board(), 2, "meetings");
        Edges.is(allUp(), 78, "meetings");
        Edges.is(Looms.told(Looms.R + "node a off r up long 5;" + TAIL), 0, "meetings");
    }

    @Says(in = "Promise 14", words = "NONE: 1 (no HARNESS).")
    static void meetingsRefused() {
        Edges.refused(Looms::bare, -1, 1, "meetings");
    }

    @Says(in = "Promise 15", words = "BUNDLES that lie on a point, as bits (by their NODES).")
    static void bundlesAsBits() {
        Edges.is(board(), 2 | 16 | 64 | 128, "lying", 0, 0);
        Edges.is(board(), 2 | 32, "lying", 6, 0);
        Edges.is(board(), 2, "lying", 5, 0);
        SplicedLoom x = allUp();
        // the ROOT has no BUNDLE: bit 0 is never there
        Edges.is(x, (1 << 14) - 2, "lying", 0, 0);
        Edges.is(x, 1 << 13, "lying", 0, 13);
        Edges.is(x, 0, "lying", 0, 14);
        Edges.is(root(), 0, "lying", 0, 0);
    }

    @Says(in = "Promise 15", words = "BUNDLES that lie on a point, as bits (by their NODES).")
    static void pointsFarOut() {
        SplicedLoom x = allUp();
        for (long far : new long[] {MIN, MAX, MIN + 1, MAX - 1, -1, 14, 1L << 16, 65536 + 5}) {
            Edges.is(x, 0, "lying", 0, far);
            Edges.is(x, 0, "lying", far, 0);
            Edges.is(x, 0, "lying", far, far);
        }
        Edges.is(x, 0, "lying", MIN, MAX);
    }

    @Says(in = "Promise 15", words = "NONE: 1 (no HARNESS).")
    static void lyingRefused() {
        Edges.refused(Looms::bare, -1, 1, "lying", 0, 0);
        Edges.refused(Looms::bare, -1, 1, "lying", MIN, MAX);
    }

    @Says(in = "Promise 16", words = "Of all PLACES 0 the least x, 1 the greatest, 2 the least y, 3 the greatest.")
    static void extents() {
        String[] sides = {"up", "right", "down", "left"};
        int[][] want = {{0, 0, 0, 12987}, {0, 12987, 0, 0}, {0, 0, -12987, 0}, {-12987, 0, 0, 0}};
        for (int what = 0; what < 4; what++) {
            Edges.is(board(), new int[] {-2, 10, -3, 5}[what], "extent", what);
            Edges.is(root(), 0, "extent", what);
            for (int side = 0; side < 4; side++) {
                Edges.is(longest(sides[side]), want[side][what], "extent", what);
            }
        }
        SplicedLoom x = board();
        x.stretch(7, 1);
        Edges.is(x, -1, "extent", 0);
    }

    @Says(in = "Promise 16", words = "Integer.MIN_VALUE: 1 (no NODES, what, too).")
    static void extentRefused() {
        for (long what : Edges.out(4)) {
            refused(MIN, "extent", what);
        }
        for (int what = 0; what < 4; what++) {
            Edges.refused(Looms::bare, MIN, 1, "extent", what);
        }
    }

    @Says(in = "Promise 17", words = "The greatest FAR of any two NODES.")
    static void spans() {
        Edges.is(root(), 0, "span");
        Edges.is(longest("right"), 12987, "span");
        // the two that are farthest apart need not be told last, nor be the ROOT
        Edges.is(board(), 30, "span");
        Edges.is(allUp(), 25, "span");
        Edges.is(Looms.told(Looms.R + "node a off r up long 7;" + TAIL), 7, "span");
        SplicedLoom x = board();
        x.stretch(7, 999);
        Edges.is(x, 1024, "span");
    }

    @Says(in = "Promise 17", words = "NONE: 1.")
    static void spanRefused() {
        Edges.refused(Looms::bare, -1, 1, "span");
    }
}
