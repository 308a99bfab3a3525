/** Promises 31 to 34. */
public final class FlawsTest {
    private static final String HEAD = "board slack 0 joint 0;node r;option x;"
        + "plug p on r holes 9 gauge 2 to 4;plug q on r holes 9 gauge 1 to 9;plug s on r holes 9 gauge 1 to 9 with x;";

    public static void main(String[] args) {
        dangling();
        misfits();
        clashes();
        neighbours();
        allInOrder();
        most();
        soundAndFlawed();
        refusals();
        Bench.close("FlawsTest");
    }

    private static void flaw(SplicedLoom x, int variant, int i, int... want) {
        for (int what = 0; what < 5; what++) {
            Bench.answers(x, "flaw(" + variant + ", " + i + ", " + what + ")", x.flaw(variant, i, what), want[what]);
        }
    }

    private static void dangling() {
        SplicedLoom x = Bench.loomOf(HEAD + "net n ground gauge 2 of s 3,p 5;net m ground gauge 2 of s 1,s 2;"
            + "net k ground gauge 9 of s 0,p 8,s 8");
        Bench.answers(x, "flaws(0)", x.flaws(0), 3);
        flaw(x, 0, 0, 1, 0, -2, 0, 5);
        flaw(x, 0, 1, 1, 2, -2, 0, 8);
        flaw(x, 0, 2, 2, 2, -2, 0, 8);
        Bench.answers(x, "flaws(1): only the gauge at p", x.flaws(1), 1);
        flaw(x, 1, 0, 2, 2, -2, 0, 8);
        Bench.refuses(x, "a net without pins does not dangle", x.flaw(0, 3, 0), 1);
    }

    private static void misfits() {
        int[] want = {0, 2, 0, 0, 0, 2, 2, 2, 2, 2};
        for (int gauge = 1; gauge < 10; gauge++) {
            SplicedLoom x = Bench.loomOf(HEAD + "net n ground gauge " + gauge + " of q 0,p 0,q 1,p 1");
            Bench.answers(x, "flaws of gauge " + gauge, x.flaws(0), want[gauge]);
        }
        SplicedLoom x = Bench.loomOf(HEAD + "net n ground gauge 9 of q 0,p 3,q 1,p 1");
        flaw(x, 0, 0, 2, 0, -2, 0, 3);
        flaw(x, 0, 1, 2, 0, -2, 0, 1);
    }

    private static void clashes() {
        SplicedLoom x = Bench.loomOf(HEAD + "net a power gauge 2 with x of q 0,q 1;net b power gauge 2 of q 1,q 0;"
            + "net c power gauge 2 of p 0,q 1;net d power gauge 2 of s 5,q 2;net e power gauge 2 of q 2,p 2");
        Bench.answers(x, "flaws(0)", x.flaws(0), 3);
        flaw(x, 0, 0, 3, 2, 1, 1, 1);
        flaw(x, 0, 1, 1, 3, -2, 1, 2);
        flaw(x, 0, 2, 3, 4, 3, 1, 2);
        Bench.answers(x, "flaws(1)", x.flaws(1), 4);
        flaw(x, 1, 0, 3, 1, 0, 1, 1);
        flaw(x, 1, 1, 3, 1, 0, 1, 0);
        flaw(x, 1, 2, 3, 2, 0, 1, 1);
        flaw(x, 1, 3, 3, 4, 3, 1, 2);
    }

    private static void neighbours() {
        SplicedLoom x = Bench.loomOf(HEAD + "net a signal gauge 2 with x of q 5,q 0;net b power gauge 2 of q 4,p 0;"
            + "net c signal gauge 2 of q 3,p 4;net d ground gauge 2 of p 1,p 3;net e power gauge 2 of p 5,p 8;"
            + "net f power gauge 2 of p 3,q 8;net g signal gauge 2 of s 4,s 5;net h signal gauge 2 of q 3,p 6");
        // variant 0: g has no pins, a isn't there
        int[][] zero = {{4, 1, 2, 1, 4}, {4, 2, 1, 1, 3}, {4, 2, 4, 0, 4}, {4, 4, 2, 0, 5}, {3, 5, 3, 0, 3},
            {4, 5, 2, 0, 3}, {3, 7, 2, 1, 3}, {4, 7, 1, 1, 3}, {4, 7, 4, 0, 6}};
        Bench.answers(x, "flaws(0)", x.flaws(0), zero.length);
        for (int i = 0; i < zero.length; i++) {
            flaw(x, 0, i, zero[i]);
        }
        Bench.answers(x, "flaws(1)", x.flaws(1), zero.length + 1);
        flaw(x, 1, 0, 4, 0, 1, 1, 5);
        flaw(x, 1, 1, 4, 1, 0, 1, 4);
        SplicedLoom same = Bench.loomOf(HEAD + "net a signal gauge 2 of q 0,q 8;net b power gauge 2 of q 0,p 1;"
            + "net c power gauge 2 of p 2,q 2");
        Bench.answers(same, "in one cavity they clash only", same.flaws(0), 1);
        flaw(same, 0, 0, 3, 1, 0, 1, 0);
    }

    private static void allInOrder() {
        SplicedLoom x = Bench.loomOf(HEAD + "net a signal gauge 2 of p 0,p 2;"
            + "net b power gauge 9 of p 1,s 0;net c signal gauge 1 of p 1,s 5;net d power gauge 5 of p 1,s 7,q 7");
        int[][] want = {{4, 0, 1, 0, 0}, {4, 0, 1, 0, 2}, {1, 1, -2, 0, 1}, {2, 1, -2, 0, 1}, {4, 1, 0, 0, 1},
            {1, 2, -2, 0, 1}, {2, 2, -2, 0, 1}, {3, 2, 1, 0, 1}, {2, 3, -2, 0, 1}, {3, 3, 1, 0, 1}, {4, 3, 0, 0, 1}};
        Bench.answers(x, "flaws(0)", x.flaws(0), want.length);
        for (int i = 0; i < want.length; i++) {
            flaw(x, 0, i, want[i]);
        }
        Bench.answers(x, "flaws(1): two do not dangle", x.flaws(1), want.length - 2);
    }

    /** Ten nets of five pins, all in the same cavities, of gauges that don't fit. */
    private static void most() {
        StringBuilder text = new StringBuilder("board slack 0 joint 0;node r;plug p on r holes 5 gauge 1 to 1");
        for (int i = 0; i < 10; i++) {
            text.append(";net n").append((char) ('a' + i)).append(i % 2 == 0 ? " power" : " signal")
                .append(" gauge 9 of p 0,p 1,p 2,p 3,p 4");
        }
        SplicedLoom x = Bench.loomOf(text.toString());
        Bench.answers(x, "flaws(0)", x.flaws(0), 10 + 9 * 15);
        flaw(x, 0, 9, 4, 0, 1, 0, 4);
        flaw(x, 0, 142, 2, 9, -2, 0, 4);
        flaw(x, 0, 143, 3, 9, 0, 0, 4);
        flaw(x, 0, 144, 4, 9, 0, 0, 4);
        Bench.refuses(x, "flaw(0, 145, 0)", x.flaw(0, 145, 0), 1);
    }

    private static void soundAndFlawed() {
        String nets = "net n ground gauge 2 of p 0,p 1;net m ground gauge 5 with x of p 2,p 3;"
            + "net k ground gauge 2 without y of s 0,p 4";
        SplicedLoom x = Bench.loomOf(HEAD + "option y;" + nets + ";build 7;build 5 y;build 99 x;build 1 y x");
        // k dangles in variant 0; m does not fit, twice, with x
        Bench.answers(x, "flaws(0)", x.flaws(0), 1);
        Bench.answers(x, "flaws(1)", x.flaws(1), 2);
        Bench.answers(x, "flaws(2)", x.flaws(2), 0);
        Bench.answers(x, "flaws(3)", x.flaws(3), 2);
        Bench.answers(x, "sound()", x.sound(), 4);
        Bench.answers(x, "flawed()", x.flawed(), 5);
        SplicedLoom none = Bench.loomOf(HEAD + "option y;" + nets);
        Bench.answers(none, "flawed() without builds", none.flawed(), 0);
        SplicedLoom all = Bench.loomOf(HEAD + "option y;option z;option w;net n ground gauge 2 of p 0,p 1;build 3 w");
        Bench.answers(all, "sound() of sixteen", all.sound(), 65535);
        Bench.answers(all, "flawed() of a sound one", all.flawed(), 0);
    }

    private static void refusals() {
        SplicedLoom x = Bench.loomOf(HEAD + "net n ground gauge 9 of p 0,q 1");
        Bench.refuses(x, "flaws(2)", x.flaws(2), 2);
        Bench.refuses(x, "flaws(-1)", x.flaws(-1), 2);
        Bench.refuses(x, "flaw(0, 0, 5)", x.flaw(0, 0, 5), 1);
        Bench.refuses(x, "flaw(0, 0, -1)", x.flaw(0, 0, -1), 1);
        Bench.refuses(x, "what ahead of variant", x.flaw(2, 0, 5), 1);
        Bench.refuses(x, "variant ahead of i", x.flaw(2, 7, 0), 2);
        Bench.refuses(x, "flaw(0, 1, 0)", x.flaw(0, 1, 0), 1);
        Bench.refuses(x, "flaw(0, -1, 0)", x.flaw(0, -1, 0), 1);
        Bench.refuses(x, "flaw(0, 2000000000, 0)", x.flaw(0, 2000000000, 0), 1);
        Bench.answers(x, "flaw(0, 0, 0)", x.flaw(0, 0, 0), 2);
    }
}
