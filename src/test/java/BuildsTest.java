/** Promises 35 to 41. */
public final class BuildsTest {
    // a 10 right, b 20 left, c 30 up of the root
    private static final String HEAD = "board slack 1 joint 2;node r;node a off r right long 10;"
        + "node b off r left long 20;node c off r up long 30;option x;option y;"
        + "plug p on a holes 9 gauge 1 to 9;plug q on b holes 9 gauge 1 to 9;plug s on c holes 9 gauge 1 to 9 with x;"
        + "plug t on r holes 9 gauge 1 to 9 with y;";
    private static final String NETS = "net n power gauge 1 of p 0,q 0,s 0;net m power gauge 1 with x of p 1,s 1;"
        + "net k power gauge 1 of s 2,t 2,q 2;net h power gauge 1 of s 3,t 3";

    public static void main(String[] args) {
        SplicedLoom x = Bench.loomOf(HEAD + NETS + ";build 10;build 7 x;build 99 y");
        builds(x);
        commons(x);
        pins(x);
        givens(x);
        families(x);
        refusals(x);
        withoutBuilds();
        belowZero();
        firstRow();
        allApart();
        eachCallByItself();
        Bench.close("BuildsTest");
    }

    private static void builds(SplicedLoom x) {
        int[] variant = {0, 1, 2};
        int[] many = {10, 7, 99};
        for (int i = 0; i < 3; i++) {
            Bench.answers(x, "build(" + i + ", 0)", x.build(i, 0), variant[i]);
            Bench.answers(x, "build(" + i + ", 1)", x.build(i, 1), many[i]);
        }
        Bench.refuses(x, "build(3, 0)", x.build(3, 0), 1);
        Bench.refuses(x, "build(-1, 0)", x.build(-1, 0), 1);
        Bench.refuses(x, "build(0, 2)", x.build(0, 2), 1);
        Bench.refuses(x, "build(0, -1)", x.build(0, -1), 1);
    }

    private static void commons(SplicedLoom x) {
        // 0: n of p q: 32. x: n of three at r: 60 + 9 = 69; m: 42; k of s q: 52. y: n 32; k of t q: 22
        int[] want = {-1, 32, 163, 163, 54, 54};
        for (int builds = 1; builds < 6; builds++) {
            Bench.answers(x, "common(" + builds + ")", x.common(builds), want[builds]);
        }
        // x and y: k of three at r: 50 + 9 = 59; h dangles in both
        Bench.answers(x, "common(6)", x.common(6), 69 + 42 + 59);
        Bench.answers(x, "common(7)", x.common(7), 69 + 42 + 59);
    }

    private static void pins(SplicedLoom x) {
        int[][] want = {{0, 0, 0, 0}, {3, 0, 0, 0}, {7, 3, 5, 0}, {7, 3, 5, 0}, {3, 0, 6, 0}, {3, 0, 6, 0},
            {7, 3, 7, 0}, {7, 3, 7, 0}};
        for (int builds = 1; builds < 8; builds++) {
            for (int net = 0; net < 4; net++) {
                Bench.answers(x, "commonPins(" + builds + ", " + net + ")", x.commonPins(builds, net),
                    want[builds][net]);
            }
        }
    }

    private static void givens(SplicedLoom x) {
        Bench.answers(x, "given(1)", x.given(1), 0);
        Bench.answers(x, "given(3)", x.given(3), 131 * 10);
        Bench.answers(x, "given(5)", x.given(5), 22 * 10);
        Bench.answers(x, "given(6)", x.given(6), 7 * 7 + 116 * 99);
        Bench.answers(x, "given(7)", x.given(7), 138 * 10 + 7 * 7 + 116 * 99);
    }

    private static void families(SplicedLoom x) {
        int[] need = {0, 170 * 116, 54 * 109 + 163 * 7, 320 + 163 * 7 + 54 * 99};
        int[][] row = {{}, {0, 0, 0}, {0, 1, 0}, {0, 1, 2}};
        for (int k = 1; k < 6; k++) {
            int as = Math.min(k, 3);
            Bench.answers(x, "families(" + k + ")", x.families(k), need[as]);
            Bench.answers(x, "groups(" + k + ")", x.groups(k), as);
            for (int build = 0; build < 3; build++) {
                Bench.answers(x, "group(" + k + ", " + build + ")", x.group(k, build), row[as][build]);
            }
        }
    }

    private static void refusals(SplicedLoom x) {
        for (int builds : new int[] {0, -1, 8, Integer.MIN_VALUE, 1 << 31 | 1}) {
            Bench.refuses(x, "common(" + builds + ")", x.common(builds), 2);
            Bench.refuses(x, "commonPins(" + builds + ", 0)", x.commonPins(builds, 0), 2);
            Bench.refuses(x, "commonPins(" + builds + ", 4)", x.commonPins(builds, 4), 1);
            Bench.refusesNumber(x, "given(" + builds + ")", x.given(builds), 2);
        }
        Bench.refuses(x, "commonPins(1, -1)", x.commonPins(1, -1), 1);
        for (int k : new int[] {0, -1, 6}) {
            Bench.refuses(x, "families(" + k + ")", x.families(k), 2);
            Bench.refuses(x, "groups(" + k + ")", x.groups(k), 2);
            Bench.refuses(x, "group(" + k + ", 0)", x.group(k, 0), 2);
            Bench.refuses(x, "group(" + k + ", 3)", x.group(k, 3), 1);
        }
        Bench.refuses(x, "group(1, -1)", x.group(1, -1), 1);
    }

    private static void withoutBuilds() {
        SplicedLoom x = Bench.loomOf(HEAD + NETS);
        Bench.refuses(x, "common(1)", x.common(1), 2);
        Bench.refusesNumber(x, "given(1)", x.given(1), 2);
        Bench.refuses(x, "families(0)", x.families(0), 2);
        Bench.refuses(x, "families(1)", x.families(1), 5);
        Bench.refuses(x, "groups(6)", x.groups(6), 2);
        Bench.refuses(x, "groups(5)", x.groups(5), 5);
        Bench.refuses(x, "group(1, 0)", x.group(1, 0), 1);
        Bench.refuses(x, "build(0, 0)", x.build(0, 0), 1);
    }

    /** With a joint of 0 a splice of three can need less than two wires. */
    private static void belowZero() {
        SplicedLoom x = Bench.loomOf("board slack 0 joint 0;node r;node a off r right long 10;option x;"
            + "plug p on r holes 9 gauge 1 to 9;plug q on a holes 9 gauge 1 to 9;plug s on r holes 9 gauge 1 to 9 with x;"
            + "plug t on a holes 9 gauge 1 to 9 without x;"
            + "net n power gauge 1 of p 0,q 0,s 0;net m power gauge 1 of p 1,q 1,t 1;build 2;build 3 x");
        Bench.answers(x, "common(1)", x.common(1), 20);
        x.splices(0, 1);
        // by hand at a: n of p, q, s 20; of p, q 10
        Bench.answers(x, "common(3)", x.common(3), 30);
        Bench.answers(x, "given(3)", x.given(3), 2 * 10 + 3 * 0);
        SplicedLoom y = Bench.loomOf("board slack 50 joint 0;node r;node a off r right long 1;option x;"
            + "plug p on r holes 9 gauge 1 to 9;plug q on a holes 9 gauge 1 to 9;plug s on r holes 9 gauge 1 to 9 with x;"
            + "net n power gauge 1 of p 0,q 0,s 0;build 2;build 3 x");
        Bench.answers(y, "given of more wires", y.given(3), 2 * 50);
        SplicedLoom z = Bench.loomOf("board slack 0 joint 0;node r;node a off r up long 9;node b off r up long 9;"
            + "node c off r up long 9;option x;plug p on a holes 9 gauge 1 to 9;plug q on b holes 9 gauge 1 to 9;"
            + "plug s on c holes 9 gauge 1 to 9;plug t on r holes 9 gauge 1 to 9 with x;"
            + "plug u on c holes 9 gauge 1 to 9 with x;"
            + "net n power gauge 1 of p 0,q 0,s 0,t 0,u 0;build 1;build 1 x");
        Bench.answers(z, "given(3)", z.given(3), 9);
        z.splices(0, 3);
        Bench.answers(z, "given(3) by hand", z.given(3), 45 - 36);
    }

    private static final String FIVE = "board slack 0 joint 0;node r;node a off r right long 1;option x;option y;"
        + "option z;option w;plug p on r holes 9 gauge 1 to 9;plug q on a holes 9 gauge 1 to 9;"
        + "net n power gauge 1 with x of p 0,q 0;net m power gauge 1 with y of p 1,q 1;"
        + "net k power gauge 1 with z of p 2,q 2;net h power gauge 1 with w of p 3,q 3;"
        + "build 1;build 2 x;build 3 y;build 4 z;build 5 w";

    /** The last row of all. */
    private static void allApart() {
        SplicedLoom x = Bench.loomOf(FIVE);
        // each build but the first has a net of its own: a group needs so many times all its harnesses
        int[] need = {0, 4 * 15, 2 * 6 + 2 * 9, 5 + 2 * 5 + 5, 3 + 3 + 4 + 5, 14};
        int[][] row = {{}, {0, 0, 0, 0, 0}, {0, 0, 0, 1, 1}, {0, 1, 1, 0, 2}, {0, 0, 1, 2, 3}, {0, 1, 2, 3, 4}};
        for (int k = 1; k < 6; k++) {
            Bench.answers(x, "families(" + k + ")", x.families(k), need[k]);
            Bench.answers(x, "groups(" + k + ")", x.groups(k), k);
            for (int build = 0; build < 5; build++) {
                Bench.answers(x, "group(" + k + ", " + build + ")", x.group(k, build), row[k][build]);
            }
        }
    }

    private static void eachCallByItself() {
        Bench.due("groups(4) first", Bench.loomOf(FIVE).groups(4), 4);
        Bench.due("group(4, 4) first", Bench.loomOf(FIVE).group(4, 4), 3);
        SplicedLoom x = Bench.loomOf(FIVE);
        x.families(5);
        Bench.answers(x, "groups(2) behind families(5)", x.groups(2), 2);
        x.families(5);
        Bench.answers(x, "group(2, 4) behind families(5)", x.group(2, 4), 1);
        x.stretch(1, 7);
        Bench.answers(x, "families(5) of another length", x.families(5), 7 * 14);
    }

    /** Of groups that need as much the first row. */
    private static void firstRow() {
        SplicedLoom x = Bench.loomOf("board slack 0 joint 0;node r;node a off r right long 10;option x;option y;option z;"
            + "plug p on r holes 9 gauge 1 to 9;plug q on a holes 9 gauge 1 to 9;"
            + "net n power gauge 1 of p 0,q 0;net m power gauge 1 with z of p 1,q 1;"
            + "build 1;build 2 x;build 3 y;build 4 z;build 5 x y");
        Bench.answers(x, "families(1)", x.families(1), 20 * 15);
        Bench.answers(x, "families(2)", x.families(2), 10 * 11 + 20 * 4);
        Bench.answers(x, "families(5)", x.families(5), 10 * 11 + 20 * 4);
        Bench.answers(x, "groups(5): no more than needed", x.groups(5), 2);
        int[] row = {0, 0, 0, 1, 0};
        for (int build = 0; build < 5; build++) {
            Bench.answers(x, "group(5, " + build + ")", x.group(5, build), row[build]);
        }
    }
}
