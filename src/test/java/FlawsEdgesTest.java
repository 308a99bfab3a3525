/** Promises 31 to 34, and the FLAWS of Term II: their edges. */
public final class FlawsEdgesTest {
    private static final long MIN = Edges.MIN;
    private static final long MAX = Edges.MAX;
    private static final String HEAD = Looms.R + "option x;plug p on r holes 9 gauge 3 to 5;"
        + "plug q on r holes 9 gauge 1 to 9;plug s on r holes 9 gauge 1 to 9 with x;";

    public static void main(String[] args) {
        Edges.run(FlawsEdgesTest.class);
    }

    private static SplicedLoom told(String nets) {
        return Looms.told(HEAD + nets);
    }

    /** All FLAWS of a VARIANT, each by its five numbers. */
    private static void flaws(SplicedLoom x, int variant, int[]... want) {
        Edges.is(x, want.length, "flaws", variant);
        for (int i = 0; i < want.length; i++) {
            for (int what = 0; what < 5; what++) {
                Edges.is(x, want[i][what], "flaw", variant, i, what);
            }
        }
        Bench.due("no FLAW more", x.flaw(variant, want.length, 0), -1);
    }

    private static int[] flaw(int... numbers) {
        return numbers;
    }

    // ---- Term II

    private static final String ORDER = "net a signal gauge 4 of q 0,q 2;net b power gauge 9 of p 1,s 0;"
        + "net c power gauge 9 of q 1,p 1,q 0;net d ground gauge 1 of p 1,p 2";

    @Says(in = "II", words = "FLAWS of a VARIANT, in this order: by NETS:")
    static void flawsByNets() {
        SplicedLoom x = told(ORDER);
        flaws(x, 0, flaw(4, 0, 2, 1, 0), flaw(4, 0, 2, 1, 2), flaw(1, 1, -2, 0, 1), flaw(2, 1, -2, 0, 1),
            flaw(4, 2, 0, 1, 1), flaw(2, 2, -2, 0, 1), flaw(3, 2, 1, 0, 1), flaw(3, 2, 0, 1, 0),
            flaw(2, 3, -2, 0, 1), flaw(3, 3, 1, 0, 1), flaw(2, 3, -2, 0, 2));
        flaws(x, 1, flaw(4, 0, 2, 1, 0), flaw(4, 0, 2, 1, 2), flaw(2, 1, -2, 0, 1),
            flaw(4, 2, 0, 1, 1), flaw(2, 2, -2, 0, 1), flaw(3, 2, 1, 0, 1), flaw(3, 2, 0, 1, 0),
            flaw(2, 3, -2, 0, 1), flaw(3, 3, 1, 0, 1), flaw(2, 3, -2, 0, 2));
    }

    @Says(in = "II", words = "1 it DANGLES (its PLUG and CAVITY);")
    static void flawOfOneThatDangles() {
        // the PIN that is THERE, whichever it is as told
        flaws(told("net n ground gauge 4 of s 3,q 7,s 4;net m ground gauge 4 of p 5,s 6"), 0,
            flaw(1, 0, -2, 1, 7), flaw(1, 1, -2, 0, 5));
        flaws(told("net n ground gauge 4 of s 3,q 7,s 4;net m ground gauge 4 of p 5,s 6"), 1);
        // no PINS, two PINS: it does not DANGLE
        flaws(told("net n ground gauge 4 of s 3,s 7;net m ground gauge 4 with x of p 5,q 6"), 0);
        flaws(told("net n ground gauge 4 of p 3,s 7,q 0"), 0);
    }

    @Says(in = "II", words = "then by its PINS: 2 its GAUGE doesn't go into that PLUG;")
    static void gaugeOfThePlug() {
        for (int gauge = 1; gauge < 10; gauge++) {
            SplicedLoom x = told("net n ground gauge " + gauge + " of q 0,p 8,q 1,p 2");
            if (gauge >= 3 && gauge <= 5) {
                flaws(x, 0);
            } else {
                flaws(x, 0, flaw(2, 0, -2, 0, 8), flaw(2, 0, -2, 0, 2));
            }
        }
        SplicedLoom same = Looms.told(Looms.R + "plug p on r holes 2 gauge 4 to 4;net a power gauge 4 of p 0,p 1;"
            + "net b ground gauge 3 of p 0,p 1;net c ground gauge 5 of p 0,p 1");
        flaws(same, 0, flaw(2, 1, -2, 0, 0), flaw(3, 1, 0, 0, 0), flaw(2, 1, -2, 0, 1), flaw(3, 1, 0, 0, 1),
            flaw(2, 2, -2, 0, 0), flaw(3, 2, 0, 0, 0), flaw(2, 2, -2, 0, 1), flaw(3, 2, 0, 0, 1));
    }

    @Says(in = "II", words = "3 a NET ahead of it has a PIN there, too (that NET, the first such);")
    static void firstOfTheNetsAhead() {
        // a and b are in the same CAVITY as c and d; of each the first ahead of it
        flaws(told("net a ground gauge 4 of q 8,q 0;net b ground gauge 4 of q 3,q 0;net c ground gauge 4 of q 3,q 8;"
            + "net d ground gauge 4 of q 0,q 3"), 0, flaw(3, 1, 0, 1, 0), flaw(3, 2, 1, 1, 3), flaw(3, 2, 0, 1, 8),
            flaw(3, 3, 0, 1, 0), flaw(3, 3, 1, 1, 3));
        // another PLUG, another CAVITY
        flaws(told("net a ground gauge 4 of q 0,q 1;net b ground gauge 4 of p 0,p 1;net c ground gauge 4 of q 2,p 2"), 0);
    }

    @Says(in = "II", words = "3 a NET ahead of it has a PIN there, too (that NET, the first such);")
    static void netAheadThatIsNotThere() {
        SplicedLoom x = told("net a ground gauge 4 with x of q 0,q 1;net b ground gauge 4 of q 0,q 2;"
            + "net c ground gauge 4 of q 1,q 0");
        flaws(x, 0, flaw(3, 2, 1, 1, 0));
        flaws(x, 1, flaw(3, 1, 0, 1, 0), flaw(3, 2, 0, 1, 1), flaw(3, 2, 0, 1, 0));
        // one that DANGLES is there with its PIN
        flaws(told("net a ground gauge 4 of q 0,s 1;net b ground gauge 4 of q 0,q 2"), 0, flaw(1, 0, -2, 1, 0),
            flaw(3, 1, 0, 1, 0));
    }

    @Says(in = "II", words = "4 it is power and some signal has a PIN in a CAVITY beside it (one more or one less, of that PLUG),")
    static void signalBesidePower() {
        for (int cavity = 0; cavity < 9; cavity++) {
            SplicedLoom x = told("net a power gauge 4 of q 4,p 0;net b signal gauge 4 of q " + cavity + ",p 8");
            if (cavity == 3 || cavity == 5) {
                flaws(x, 0, flaw(4, 0, 1, 1, 4), flaw(4, 1, 0, 1, cavity));
            } else if (cavity == 4) {
                flaws(x, 0, flaw(3, 1, 0, 1, 4));
            } else {
                flaws(x, 0);
            }
        }
        // the CAVITIES of another PLUG are not beside it
        flaws(told("net a power gauge 4 of q 4,p 0;net b signal gauge 4 of p 3,p 5,q 0,q 8"), 0);
        // the first and the last CAVITY have one beside them
        flaws(told("net a power gauge 4 of q 0,p 8;net b signal gauge 4 of q 1,p 7"), 0, flaw(4, 0, 1, 1, 0),
            flaw(4, 0, 1, 0, 8), flaw(4, 1, 0, 1, 1), flaw(4, 1, 0, 0, 7));
        flaws(told("net a power gauge 4 of q 0,p 8;net b signal gauge 4 of q 8,p 0"), 0);
    }

    @Says(in = "II", words = "4 it is power and some signal has a PIN in a CAVITY beside it (one more or one less, of that PLUG),")
    static void othersBesideEachOther() {
        String[] kinds = {"power", "signal", "ground"};
        for (int one = 0; one < 3; one++) {
            for (int other = 0; other < 3; other++) {
                SplicedLoom x = told("net a " + kinds[one] + " gauge 4 of q 4,p 0;net b " + kinds[other]
                    + " gauge 4 of q 5,p 8");
                boolean foes = one + other == 1;
                Edges.is(x, foes ? 2 : 0, "flaws", 0);
            }
        }
        // PINS of one NET beside each other
        flaws(told("net a power gauge 4 of q 4,q 5,q 6;net b signal gauge 4 of p 4,p 5"), 0);
    }

    @Says(in = "II", words = "or the other way round (that NET, of several, in either CAVITY, the first by number).")
    static void firstByNumberOnEitherSide() {
        // b stands at 5, c at 3; a and d are their foes
        flaws(told("net a power gauge 4 of q 4,p 0;net b signal gauge 4 of q 5,p 2;net c signal gauge 4 of q 3,p 4;"
            + "net d power gauge 4 of q 6,p 6"), 0, flaw(4, 0, 1, 1, 4), flaw(4, 1, 0, 1, 5), flaw(4, 2, 0, 1, 3),
            flaw(4, 3, 1, 1, 6));
        // the first by number, be it at one less or at one more
        flaws(told("net b signal gauge 4 of q 3,p 2;net c signal gauge 4 of q 5,p 4;net a power gauge 4 of q 4,p 0"), 0,
            flaw(4, 0, 2, 1, 3), flaw(4, 1, 2, 1, 5), flaw(4, 2, 0, 1, 4));
        flaws(told("net b signal gauge 4 of q 5,p 2;net c signal gauge 4 of q 3,p 4;net a power gauge 4 of q 4,p 0"), 0,
            flaw(4, 0, 2, 1, 5), flaw(4, 1, 2, 1, 3), flaw(4, 2, 0, 1, 4));
        // a NET behind it, too, and one on both sides once
        flaws(told("net a signal gauge 4 of q 4,p 0;net b power gauge 4 of q 3,q 5"), 0, flaw(4, 0, 1, 1, 4),
            flaw(4, 1, 0, 1, 3), flaw(4, 1, 0, 1, 5));
    }

    @Says(in = "II", words = "or the other way round (that NET, of several, in either CAVITY, the first by number).")
    static void netBesideThatIsNotThere() {
        SplicedLoom x = told("net a power gauge 4 of q 4,p 0;net b signal gauge 4 with x of q 5,p 2;"
            + "net c signal gauge 4 of q 3,p 4");
        flaws(x, 0, flaw(4, 0, 2, 1, 4), flaw(4, 2, 0, 1, 3));
        flaws(x, 1, flaw(4, 0, 1, 1, 4), flaw(4, 1, 0, 1, 5), flaw(4, 2, 0, 1, 3));
    }

    @Says(in = "II", words = "2 to 4 are of PINS that the NET has in this VARIANT, also if it DANGLES.")
    static void flawsOfPinsThatAreThere() {
        // b DANGLES at p 1 without x, and has no PINS at s then
        SplicedLoom x = told("net a signal gauge 4 of q 0,p 1,s 3;net b power gauge 9 of p 2,s 4,s 3");
        flaws(x, 0, flaw(4, 0, 1, 0, 1), flaw(1, 1, -2, 0, 2), flaw(2, 1, -2, 0, 2), flaw(4, 1, 0, 0, 2));
        flaws(x, 1, flaw(4, 0, 1, 0, 1), flaw(4, 0, 1, 2, 3), flaw(2, 1, -2, 0, 2), flaw(4, 1, 0, 0, 2),
            flaw(4, 1, 0, 2, 4), flaw(3, 1, 0, 2, 3));
        // a NET that is not THERE has no FLAWS, nor has another one by it
        SplicedLoom y = told("net a signal gauge 9 with x of p 0,p 1;net b power gauge 4 of p 1,p 2");
        flaws(y, 0);
        flaws(y, 1, flaw(2, 0, -2, 0, 0), flaw(4, 0, 1, 0, 0), flaw(2, 0, -2, 0, 1), flaw(4, 0, 1, 0, 1),
            flaw(3, 1, 0, 0, 1), flaw(4, 1, 0, 0, 1), flaw(4, 1, 0, 0, 2));
    }

    // ---- promises

    @Says(in = "The calls", words = "---- flaws.")
    static void flawsOfAnotherHarness() {
        SplicedLoom x = most();
        Edges.is(x, 145, "flaws", 0);
        Bench.tell(x, Looms.LOOM);
        Edges.is(x, 0, "flaws", 0);
        Edges.is(x, 5, "flaws", 1);
        Edges.is(x, 5, "sound");
        Edges.is(x, 10, "flawed");
        // an ACT changes none of them
        x.splices(0, 4);
        x.stretch(1, 999);
        Edges.is(x, 5, "flaws", 3);
    }

    /** Ten NETS of five PINS in the same CAVITIES, each with all the FLAWS that it can have but 1. */
    private static SplicedLoom most() {
        StringBuilder text = new StringBuilder(Looms.R + "plug p on r holes 5 gauge 1 to 1");
        for (char name = 'a'; name <= 'j'; name++) {
            text.append(";net n").append(name).append(name % 2 == 1 ? " power" : " signal")
                .append(" gauge 2 of p 0,p 1,p 2,p 3,p 4");
        }
        return Looms.told(text.toString());
    }

    @Says(in = "Promise 31", words = "How many FLAWS.")
    static void noneAndMostFlaws() {
        Edges.is(Looms.told(Looms.P + Looms.N), 0, "flaws", 0);
        // of the first NET 2 and 4, of each other one 2, 3 and 4 of each PIN
        Edges.is(most(), 10 + 9 * 15, "flaws", 0);
        SplicedLoom x = Looms.loom();
        int[] want = {0, 5, 0, 5};
        for (int variant = 0; variant < 4; variant++) {
            Edges.is(x, want[variant], "flaws", variant);
        }
    }

    @Says(in = "Promise 31", words = "NONE: 1 (no HARNESS); 2.")
    static void flawsRefused() {
        Edges.refused(Looms::bare, -1, 1, "flaws", 0);
        Edges.refused(Looms::bare, -1, 1, "flaws", -1);
        for (long variant : new long[] {-1, 4, 16, MIN, MAX}) {
            Edges.refused(2, "flaws", variant);
        }
    }

    @Says(in = "Promise 32", words = "Of the i-th 0 its number (1 .. 4), 1 the NET, 2 the other NET (-2 of 1, 2), 3 the PLUG, 4 the CAVITY.")
    static void numbersOfAFlaw() {
        flaws(told("net a power gauge 4 of q 8,p 0;net b signal gauge 9 of p 1,s 0;net c ground gauge 4 of p 1,p 3"), 0,
            flaw(4, 0, 1, 0, 0), flaw(1, 1, -2, 0, 1), flaw(2, 1, -2, 0, 1), flaw(4, 1, 0, 0, 1), flaw(3, 2, 1, 0, 1));
        SplicedLoom x = most();
        // the first, and the last three, of the last NET at its last PIN
        int[][] want = {flaw(2, 0, -2, 0, 0), flaw(2, 9, -2, 0, 4), flaw(3, 9, 0, 0, 4), flaw(4, 9, 0, 0, 4)};
        for (int what = 0; what < 5; what++) {
            Edges.is(x, want[0][what], "flaw", 0, 0, what);
            for (int i = 1; i < 4; i++) {
                Edges.is(x, want[i][what], "flaw", 0, 141 + i, what);
            }
        }
    }

    @Says(in = "Promise 32", words = "NONE: 1 (no HARNESS, what); 2; 1 (i).")
    static void flawRefused() {
        Edges.refused(Looms::bare, -1, 1, "flaw", 0, 0, 0);
        for (long what : Edges.out(5)) {
            Edges.refused(1, "flaw", 1, 0, what);
            Edges.refused(1, "flaw", 4, 0, what);
            Edges.refused(1, "flaw", 4, 5, what);
        }
        for (long variant : Edges.out(4)) {
            Edges.refused(2, "flaw", variant, 0, 0);
            Edges.refused(2, "flaw", variant, 5, 0);
            Edges.refused(2, "flaw", variant, -1, 4);
        }
        for (long i : Edges.out(5)) {
            Edges.refused(1, "flaw", 1, i, 0);
            Edges.refused(1, "flaw", 3, i, 4);
        }
        // without FLAWS, behind a VARIANT that has some
        Edges.refused(() -> {
            SplicedLoom x = Looms.used();
            x.flaws(1);
            return x;
        }, -1, 1, "flaw", 0, 0, 0);
        Edges.refused(1, "flaw", 2, 0, 4);
    }

    @Says(in = "Promise 33", words = "VARIANTS without FLAWS, as bits.")
    static void soundVariants() {
        Edges.is(Looms.loom(), 1 | 4, "sound");
        Edges.is(Looms.told(Looms.P + Looms.N), 1, "sound");
        Edges.is(most(), 0, "sound");
        String four = Looms.P + "option w;option x;option y;option z;";
        Edges.is(Looms.told(four + Looms.N), 65535, "sound");
        // a FLAW with the last OPTION only; without the first only
        Edges.is(Looms.told(four + Looms.N + ";net m power gauge 1 with z of p 0,p 2"), 255, "sound");
        Edges.is(Looms.told(four + Looms.N + ";net m power gauge 1 without w of p 0,p 2"), 0xAAAA, "sound");
        // BUILDS or not
        Edges.is(Looms.told(four + Looms.N + ";net m power gauge 1 with z of p 0,p 2;build 1 z;build 2"), 255, "sound");
    }

    @Says(in = "Promise 33", words = "NONE: 1.")
    static void soundRefused() {
        Edges.refused(Looms::bare, -1, 1, "sound");
    }

    @Says(in = "Promise 34", words = "How many FLAWS all BUILDS have, together (each BUILD once).")
    static void flawsOfAllBuilds() {
        // BUILDS of ten, five and two harnesses, of VARIANTS 0, 1 and 3
        Edges.is(Looms.loom(), 5 + 5, "flawed");
        // VARIANTS with FLAWS of which there is no BUILD
        String text = Looms.P + "option x;" + Looms.N + ";net m power gauge 1 with x of p 0,p 2";
        Edges.is(Looms.told(text), 0, "flawed");
        Edges.is(Looms.told(text + ";build 99"), 0, "flawed");
        Edges.is(Looms.told(text + ";build 99 x"), 1, "flawed");
        Edges.is(Looms.told(text + ";build 99;build 99 x"), 1, "flawed");
    }

    @Says(in = "Promise 34", words = "How many FLAWS all BUILDS have, together (each BUILD once).")
    static void flawsOfFiveBuilds() {
        String five = ";build 99;build 99 w;build 99 x;build 99 w x;build 99 y";
        String text = Looms.P + "option w;option x;option y;net a power gauge 1 of p 0,p 1;net b power gauge 1 of p 0,p 1";
        Edges.is(Looms.told(text + five), 10, "flawed");
        Edges.is(Looms.told(text + ";net c power gauge 1 with y of p 0,p 2" + five), 11, "flawed");
    }

    @Says(in = "Promise 34", words = "NONE: 1.")
    static void flawedRefused() {
        Edges.refused(Looms::bare, -1, 1, "flawed");
    }
}
