/** Promises 35 to 41, and Term III of builds: their edges. */
public final class BuildsEdgesTest {
    private static final long MIN = Edges.MIN;
    private static final long MAX = Edges.MAX;

    // LOOM by BUILD: 49 (n 14, k 35), 109 (n 40, m 14, k 55), 94 (n 40, m 14, k 40); of two or three of them 109
    private static final int[] COMMON = {-1, 49, 109, 109, 94, 109, 109, 109};

    /*
     * r, a 10 right of it; p at r, q at a, s at r with x, t at a with y, u at r with z. By VARIANT n has p and q
     * always, more by options; m is there with y, k with z.
     */
    private static final String HEAD = "board slack 1 joint 2;node r;node a off r right long 10;option x;option y;"
        + "option z;plug p on r holes 9 gauge 1 to 9;plug q on a holes 9 gauge 1 to 9;"
        + "plug s on r holes 9 gauge 1 to 9 with x;plug t on a holes 9 gauge 1 to 9 with y;"
        + "plug u on r holes 9 gauge 1 to 9 with z;";

    /** No BUILDS at all. */
    private static final String NO_BUILDS = Looms.P + "option x;" + Looms.N;

    /** Each BUILD but the first has a NET of its own, 1 long. */
    private static final String FIVE = Looms.R + "node a off r right long 1;option x;option y;option z;option w;"
        + "plug p on r holes 9 gauge 1 to 9;plug q on a holes 9 gauge 1 to 9;"
        + "net n power gauge 1 with x of p 0,q 0;net m power gauge 1 with y of p 1,q 1;"
        + "net k power gauge 1 with z of p 2,q 2;net h power gauge 1 with w of p 3,q 3;"
        + "build 1;build 2 x;build 3 y;build 4 z;build 5 w";

    public static void main(String[] args) {
        Edges.run(BuildsEdgesTest.class);
    }

    private static SplicedLoom told(String rest) {
        return Looms.told(HEAD + rest);
    }

    /** What FAMILIES by k need, and their row of groups. */
    private static void families(SplicedLoom x, int k, int need, int... row) {
        int groups = 0;
        for (int build = 0; build < row.length; build++) {
            Edges.is(x, row[build], "group", k, build);
            groups = Math.max(groups, row[build] + 1);
        }
        Edges.is(x, need, "families", k);
        Edges.is(x, groups, "groups", k);
    }

    // ---- Term III

    @Says(in = "III", words = "A HARNESS for some BUILDS: of each NET all PINS that it has in at least one of their VARIANTS")
    static void pinsOfSomeBuilds() {
        SplicedLoom x = told("net n power gauge 1 of p 0,q 0,s 0,t 0;build 1;build 1 x;build 1 y;build 1 x y");
        int[] pins = {3, 7, 11, 15};
        for (int builds = 1; builds < 16; builds++) {
            int want = 0;
            for (int build = 0; build < 4; build++) {
                want |= (builds >> build & 1) == 1 ? pins[build] : 0;
            }
            Edges.is(x, want, "commonPins", builds, 0);
        }
        // also PINS that it has in no VARIANT together
        SplicedLoom y = told("plug v on r holes 9 gauge 1 to 9 without x;net n power gauge 1 of q 0,s 0,v 0;"
            + "build 1;build 1 x");
        Edges.is(y, 5, "commonPins", 1, 0);
        Edges.is(y, 3, "commonPins", 2, 0);
        Edges.is(y, 7, "commonPins", 3, 0);
        Edges.is(y, 3 * 3 + 10, "common", 3);
    }

    @Says(in = "III", words = "in which it has two at least:")
    static void pinOfOneThatDangles() {
        // n DANGLES at u with z, at s with x: neither PIN is in the harness by that
        SplicedLoom x = told("net n power gauge 1 of s 0,t 0,u 0;build 1;build 1 x;build 1 z;build 1 x y");
        Edges.is(x, 0, "commonPins", 1, 0);
        Edges.is(x, 0, "commonPins", 2, 0);
        Edges.is(x, 0, "commonPins", 4, 0);
        Edges.is(x, 0, "commonPins", 7, 0);
        Edges.is(x, 0, "common", 7);
        Edges.is(x, 3, "commonPins", 8, 0);
        Edges.is(x, 3, "commonPins", 15, 0);
        Edges.is(x, 12, "common", 15);
        // with two it has that PIN
        SplicedLoom y = told("net n power gauge 1 of s 0,t 0,u 0;build 1 x y;build 1 y z");
        Edges.is(y, 7, "commonPins", 3, 0);
        Edges.is(y, 10 + 3 * 3, "common", 3);
    }

    @Says(in = "III", words = "its WIRES by these.")
    static void wiresBySomeBuilds() {
        // of two PINS one WIRE, of three a SPLICE, though no VARIANT has it
        SplicedLoom x = told("plug v on a holes 9 gauge 1 to 9 without x;net n power gauge 1 of q 0,s 0,v 0;"
            + "build 1;build 1 x");
        Edges.is(x, 2, "common", 1);
        Edges.is(x, 12, "common", 2);
        Edges.is(x, 10 + 9, "common", 3);
        // by hand, too
        x.splices(0, 0);
        Edges.is(x, 2, "common", 1);
        Edges.is(x, 12, "common", 2);
        Edges.is(x, 20 + 9, "common", 3);
        x.stretch(1, 999);
        Edges.is(x, 2 * 999 + 9, "common", 3);
    }

    @Says(in = "III", words = "ITS WIRE: lengths of all, together.")
    static void itsWire() {
        SplicedLoom x = Looms.loom();
        for (int builds = 1; builds < 8; builds++) {
            Edges.is(x, COMMON[builds], "common", builds);
        }
        // of all GAUGES and KINDS
        SplicedLoom y = told("net n power gauge 9 of p 0,q 0;net m signal gauge 1 of p 0,q 0;net k ground gauge 5 of p 0,q 0;"
            + "build 1 z");
        Edges.is(y, 36, "common", 1);
        Edges.is(told("net n power gauge 9 with x of p 0,q 0;build 1 z"), 0, "common", 1);
    }

    @Says(in = "III", words = "GIVEN AWAY: for each BUILD of them, ITS WIRE less that of a HARNESS for it alone, times how many there are of it,")
    static void givenAway() {
        SplicedLoom x = Looms.loom();
        int[] want = {-1, 0, 0, 60 * 10, 0, 60 * 10 + 15 * 2, 15 * 2, 60 * 10 + 15 * 2};
        for (int builds = 1; builds < 8; builds++) {
            Edges.is(x, want[builds], "given", builds);
        }
        Edges.is(Looms.told(FIVE), 4 * 1 + 3 * (2 + 3 + 4 + 5), "given", 31);
    }

    @Says(in = "III", words = "together (may be below 0).")
    static void givenAwayIsNeverARefusal() {
        // each text and ACT here leaves it at 0: trouble() is 0 as well
        SplicedLoom x = told("net n power gauge 1 of p 0,q 0;build 99;build 99 x;build 99 y;build 99 z;build 99 x y z");
        for (int builds = 1; builds < 32; builds++) {
            Edges.is(x, 0, "given", builds);
        }
        x.splices(0, 1);
        Edges.is(x, 0, "given", 31);
        // a SPLICE by hand where it needs most
        SplicedLoom y = told("net n power gauge 1 of p 0,q 0,s 0;build 3;build 5 x");
        Edges.is(y, 3 * (19 - 12), "given", 3);
        y.splices(0, 1);
        Edges.is(y, 3 * (29 - 12), "given", 3);
    }

    @Says(in = "III", words = "FAMILIES by k: BUILDS parted into k groups at most,")
    static void atMostSoManyGroups() {
        SplicedLoom x = Looms.told(FIVE);
        families(x, 1, 60, 0, 0, 0, 0, 0);
        families(x, 2, 2 * 6 + 2 * 9, 0, 0, 0, 1, 1);
        families(x, 3, 5 + 2 * 5 + 5, 0, 1, 1, 0, 2);
        families(x, 4, 3 + 3 + 4 + 5, 0, 0, 1, 2, 3);
        families(x, 5, 14, 0, 1, 2, 3, 4);
        // fewer, where more need as much
        SplicedLoom y = told("net n power gauge 1 of p 0,q 0;build 1;build 2 x;build 3 y;build 4 z;build 5 x y");
        for (int k = 1; k < 6; k++) {
            families(y, k, 12 * 15, 0, 0, 0, 0, 0);
        }
    }

    @Says(in = "III", words = "FAMILIES by k: BUILDS parted into k groups at most,")
    static void moreGroupsThanBuilds() {
        SplicedLoom x = Looms.loom();
        int three = 49 * 10 + 109 * 5 + 94 * 2;
        families(x, 1, 109 * 17, 0, 0, 0);
        families(x, 2, 49 * 10 + 109 * 7, 0, 1, 1);
        families(x, 3, three, 0, 1, 2);
        families(x, 4, three, 0, 1, 2);
        families(x, 5, three, 0, 1, 2);
        SplicedLoom one = told("net n power gauge 1 of p 0,q 0;build 7 z");
        for (int k = 1; k < 6; k++) {
            families(one, k, 12 * 7, 0);
        }
    }

    @Says(in = "III", words = "so that ITS WIRE of each group times all harnesses of its BUILDS, together, is least,")
    static void leastWireOfTheGroups() {
        // few harnesses give away less than many
        String nets = "net n power gauge 1 of p 0,q 0;net m power gauge 1 with x of p 1,q 1;"
            + "net k power gauge 1 with y of p 2,q 2;";
        families(told(nets + "build 99;build 1 x;build 99 y"), 2, 24 * 100 + 24 * 99, 0, 0, 1);
        families(told(nets + "build 50 x;build 1;build 99 x z"), 2, 24 * 149 + 12, 0, 1, 0);
        families(told(nets + "build 99;build 2 x;build 1 y"), 2, 12 * 99 + 36 * 3, 0, 1, 1);
        families(told(nets + "build 1 x y;build 50 x;build 99 y"), 2, 36 * 51 + 24 * 99, 0, 0, 1);
    }

    @Says(in = "III", words = "so that ITS WIRE of each group times all harnesses of its BUILDS, together, is least,")
    static void greatestNeedOfFamilies() {
        StringBuilder text = new StringBuilder("board slack 99 joint 99;node a;option o;option p;option q;");
        for (char name = 'b'; name <= 'n'; name++) {
            text.append("node n").append(name).append(" off ").append(name == 'b' ? "a" : "n" + (char) (name - 1))
                .append(" up long 999;");
        }
        text.append("plug r on a holes 5 gauge 9 to 9");
        for (char name = 'a'; name <= 'j'; name++) {
            text.append(";net s").append(name).append(" power gauge 9 of r 0,r 1,r 2,r 3,r 4");
        }
        SplicedLoom x = Looms.told(text + ";build 99;build 99 o;build 99 p;build 99 q;build 99 o p");
        for (int net = 0; net < 10; net++) {
            x.splices(net, 13);
        }
        int wire = 50 * (13 * 999 + 198);
        Edges.is(x, wire, "common", 31);
        families(x, 1, wire * 495, 0, 0, 0, 0, 0);
        families(x, 5, wire * 495, 0, 0, 0, 0, 0);
    }

    @Says(in = "III", words = "of like ones the first by the row of groups (BUILD by BUILD: groups numbered from 0 as they come first).")
    static void firstRowOfLikeOnes() {
        String nets = "net n power gauge 1 of p 0,q 0;net m power gauge 1 with x of p 1,q 1;"
            + "net k power gauge 1 with y of p 2,q 2;net h power gauge 1 with z of p 3,q 3;";
        // 0, 0, 1 and 0, 1, 0 and 0, 1, 1 need as much
        families(told(nets + "build 5 x;build 5 y;build 5 z"), 2, 36 * 10 + 24 * 5, 0, 0, 1);
        // 0, 0, 1, 2; 0, 1, 0, 2; 0, 1, 2, 0 need as much, all others more
        families(told(nets + "build 1;build 1 x;build 1 y;build 1 z"), 3, 2 * 24 + 2 * 24, 0, 0, 1, 2);
        // BUILDS that need the same stay together, though apart they need no more
        families(told(nets + "build 3 x;build 4;build 3 x z;build 3 z"), 4, 24 * 3 + 12 * 4 + 36 * 3 + 24 * 3, 0, 1, 2, 3);
        families(told("net n power gauge 1 of p 0,q 0;net m power gauge 1 with x of p 1,q 1;"
            + "build 3 x;build 4;build 3 x z;build 3 z"), 4, 24 * 6 + 12 * 7, 0, 1, 0, 1);
    }

    @Says(in = "III", words = "of like ones the first by the row of groups (BUILD by BUILD: groups numbered from 0 as they come first).")
    static void buildsWithoutWire() {
        SplicedLoom x = told("net n power gauge 1 with x of p 0,q 0;build 9;build 9 y;build 9 x;build 9 z;build 9 x y");
        families(x, 1, 12 * 45, 0, 0, 0, 0, 0);
        for (int k = 2; k < 6; k++) {
            families(x, k, 12 * 18, 0, 0, 1, 0, 1);
        }
        // none has any: all in one group
        SplicedLoom y = told("net n power gauge 1 of s 0,t 0;build 9;build 9 y;build 9 x");
        for (int k = 1; k < 6; k++) {
            families(y, k, 0, 0, 0, 0);
        }
    }

    // ---- promises

    @Says(in = "The calls", words = "---- builds.")
    static void buildsOfAnotherHarness() {
        SplicedLoom x = Looms.told(FIVE);
        x.families(5);
        Bench.tell(x, Looms.LOOM);
        families(x, 2, 49 * 10 + 109 * 7, 0, 1, 1);
        Edges.refused(() -> {
            SplicedLoom y = Looms.told(FIVE);
            Bench.tell(y, Looms.LOOM);
            return y;
        }, -1, 1, "group", 2, 3);
        Edges.refused(() -> {
            SplicedLoom y = Looms.told(FIVE);
            Bench.tell(y, Looms.LOOM);
            return y;
        }, -1, 2, "common", 8);
    }

    @Says(in = "Promise 35", words = "Of a BUILD 0 its VARIANT, 1 how many harnesses.")
    static void numbersOfABuild() {
        int[][] want = {{0, 10}, {1, 5}, {3, 2}};
        for (int i = 0; i < 3; i++) {
            Edges.is(Looms.loom(), want[i][0], "build", i, 0);
            Edges.is(Looms.loom(), want[i][1], "build", i, 1);
        }
        SplicedLoom x = Looms.told(Looms.P + "option w;option x;option y;option z;" + Looms.N
            + ";build 99 z w y x;build 1 z;build 2 z w;build 3;build 4 y");
        int[] variants = {15, 8, 9, 0, 4};
        int[] harnesses = {99, 1, 2, 3, 4};
        for (int i = 0; i < 5; i++) {
            Edges.is(x, variants[i], "build", i, 0);
            Edges.is(x, harnesses[i], "build", i, 1);
        }
    }

    @Says(in = "Promise 35", words = "NONE: 1 (what, too).")
    static void buildRefused() {
        Edges.refused(Looms::bare, -1, 1, "build", 0, 0);
        Edges.refused(() -> Looms.used(NO_BUILDS), -1, 1, "build", 0, 0);
        for (long i : Edges.out(3)) {
            Edges.refused(1, "build", i, 0);
            Edges.refused(1, "build", i, 1);
        }
        Edges.refused(1, "build", 4, 0);
        for (long what : Edges.out(2)) {
            Edges.refused(1, "build", 0, what);
            Edges.refused(1, "build", 2, what);
        }
    }

    @Says(in = "Promise 36", words = "ITS WIRE of a HARNESS for some BUILDS (as bits).")
    static void buildsAsBits() {
        SplicedLoom x = Looms.told(FIVE);
        for (int builds = 1; builds < 32; builds++) {
            Edges.is(x, Integer.bitCount(builds >> 1), "common", builds);
        }
    }

    /** Bits of BUILDS of which there are just so many that are none, or of one that there isn't. */
    private static long[] noBuilds(int many) {
        return new long[] {0, -1, 1L << many, (2L << many) - 1, 1L << many | 1, 1L << 30, MIN, MIN | 1, MAX};
    }

    @Says(in = "Promise 36", words = "NONE: 1 (no HARNESS); 2 (none, or one that there isn't).")
    static void commonRefused() {
        Edges.refused(Looms::bare, -1, 1, "common", 1);
        Edges.refused(Looms::bare, -1, 1, "common", 0);
        for (long builds : noBuilds(3)) {
            Edges.refused(2, "common", builds);
        }
        for (long builds : noBuilds(5)) {
            Edges.refused(() -> Looms.used(FIVE), -1, 2, "common", builds);
        }
        for (long builds : noBuilds(0)) {
            Edges.refused(() -> Looms.used(NO_BUILDS), -1, 2, "common", builds);
        }
    }

    @Says(in = "Promise 37", words = "PINS that a NET has in it, as bits.")
    static void commonPinsAsBits() {
        SplicedLoom x = Looms.loom();
        int[][] want = {{}, {3, 0, 11}, {7, 3, 15}, {7, 3, 15}, {7, 3, 7}, {7, 3, 15}, {7, 3, 15}, {7, 3, 15}};
        for (int builds = 1; builds < 8; builds++) {
            for (int net = 0; net < 3; net++) {
                Edges.is(x, want[builds][net], "commonPins", builds, net);
            }
        }
        SplicedLoom y = told("net n power gauge 1 of p 0,p 1,p 2,p 3,p 4;build 1");
        Edges.is(y, 31, "commonPins", 1, 0);
    }

    @Says(in = "Promise 37", words = "NONE: 1 (no such NET); 2.")
    static void commonPinsRefused() {
        Edges.refused(Looms::bare, -1, 1, "commonPins", 1, 0);
        for (long net : Edges.out(3)) {
            Edges.refused(1, "commonPins", 1, net);
            Edges.refused(1, "commonPins", 8, net);
            Edges.refused(1, "commonPins", 0, net);
        }
        for (long builds : noBuilds(3)) {
            Edges.refused(2, "commonPins", builds, 2);
        }
        Edges.refused(() -> Looms.used(NO_BUILDS), -1, 2, "commonPins", 1, 0);
    }

    @Says(in = "Promise 38", words = "GIVEN AWAY.")
    static void givenOfOneOfSomeOfAll() {
        SplicedLoom x = Looms.told(FIVE);
        for (int build = 0; build < 5; build++) {
            Edges.is(x, 0, "given", 1 << build);
        }
        // with x: one given away by each of the first BUILD; with x, y: one by each of the others
        Edges.is(x, 1, "given", 3);
        Edges.is(x, 2 + 3, "given", 6);
        Edges.is(x, 2 * 1 + 2 + 3, "given", 7);
        Edges.is(x, 4 + 5, "given", 24);
        // the greatest: 99 harnesses of each but one without any WIRE
        SplicedLoom y = told("net n power gauge 1 with x of p 0,q 0;net m power gauge 1 of p 1,q 1;"
            + "build 99;build 99 x;build 99 y;build 99 z;build 99 y z");
        y.stretch(1, 999);
        Edges.is(y, 1001 * 99 * 4, "given", 31);
        Edges.is(y, 0, "given", 29);
    }

    @Says(in = "Promise 38", words = "Integer.MIN_VALUE: 1 (no HARNESS); 2.")
    static void givenRefused() {
        Edges.refused(Looms::bare, MIN, 1, "given", 1);
        Edges.refused(Looms::bare, MIN, 1, "given", 0);
        for (long builds : noBuilds(3)) {
            Edges.refused(Looms::used, MIN, 2, "given", builds);
        }
        for (long builds : noBuilds(5)) {
            Edges.refused(() -> Looms.used(FIVE), MIN, 2, "given", builds);
        }
        Edges.refused(() -> Looms.used(NO_BUILDS), MIN, 2, "given", 1);
    }

    @Says(in = "Promise 39", words = "FAMILIES by k (1 .. 5): what they need.")
    static void needsByKOfOneToFive() {
        int[] want = {60, 30, 20, 15, 14};
        for (int k = 1; k < 6; k++) {
            Edges.is(Looms.told(FIVE), want[k - 1], "families", k);
        }
        SplicedLoom x = Looms.told(FIVE);
        x.stretch(1, 999);
        Edges.is(x, 14 * 999, "families", 5);
        Edges.is(x, 60 * 999, "families", 1);
    }

    @Says(in = "Promise 39", words = "NONE: 1 (no HARNESS); 2; 5 (no BUILDS).")
    static void familiesRefused() {
        Edges.refused(Looms::bare, -1, 1, "families", 1);
        Edges.refused(Looms::bare, -1, 1, "families", 0);
        for (long k : new long[] {0, -1, 6, MIN, MAX}) {
            Edges.refused(2, "families", k);
            Edges.refused(() -> Looms.used(NO_BUILDS), -1, 2, "families", k);
        }
        for (int k = 1; k < 6; k++) {
            int by = k;
            Edges.refused(() -> Looms.used(NO_BUILDS), -1, 5, "families", by);
        }
    }

    @Says(in = "Promise 40", words = "How many groups they are.")
    static void howManyGroups() {
        for (int k = 1; k < 6; k++) {
            Edges.is(Looms.told(FIVE), k, "groups", k);
            Edges.is(Looms.loom(), Math.min(k, 3), "groups", k);
            Edges.is(told("net n power gauge 1 of p 0,q 0;build 1;build 2 x;build 3 y"), 1, "groups", k);
        }
    }

    @Says(in = "Promise 40", words = "NONE: 1; 2; 5.")
    static void groupsRefused() {
        Edges.refused(Looms::bare, -1, 1, "groups", 1);
        Edges.refused(Looms::bare, -1, 1, "groups", 6);
        for (long k : new long[] {0, -1, 6, MIN, MAX}) {
            Edges.refused(2, "groups", k);
            Edges.refused(() -> Looms.used(NO_BUILDS), -1, 2, "groups", k);
        }
        for (int k = 1; k < 6; k++) {
            int by = k;
            Edges.refused(() -> Looms.used(NO_BUILDS), -1, 5, "groups", by);
        }
    }

    @Says(in = "Promise 41", words = "The group of a BUILD in them.")
    static void groupOfABuild() {
        int[][] rows = {{0, 0, 0, 0, 0}, {0, 0, 0, 1, 1}, {0, 1, 1, 0, 2}, {0, 0, 1, 2, 3}, {0, 1, 2, 3, 4}};
        for (int build = 0; build < 5; build++) {
            SplicedLoom x = Looms.told(FIVE);
            for (int k = 5; k > 0; k--) {
                Edges.is(x, rows[k - 1][build], "group", k, build);
            }
        }
    }

    @Says(in = "Promise 41", words = "NONE: 1 (no such BUILD); 2.")
    static void groupRefused() {
        Edges.refused(Looms::bare, -1, 1, "group", 1, 0);
        for (long build : Edges.out(3)) {
            Edges.refused(1, "group", 1, build);
            Edges.refused(1, "group", 0, build);
        }
        Edges.refused(1, "group", 5, 4);
        for (long k : new long[] {0, -1, 6, MIN, MAX}) {
            Edges.refused(2, "group", k, 2);
        }
        // without BUILDS there is no such BUILD
        Edges.refused(() -> Looms.used(NO_BUILDS), -1, 1, "group", 1, 0);
        Edges.refused(() -> Looms.used(NO_BUILDS), -1, 1, "group", 0, 0);
    }
}
