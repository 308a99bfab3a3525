/** Promises 21 to 30, and what Term II says of variants and wires: their edges. Looms tells of LOOM how far it is. */
public final class VariantsEdgesTest {
    private static final long MIN = Edges.MIN;
    private static final long MAX = Edges.MAX;

    public static void main(String[] args) {
        Edges.run(VariantsEdgesTest.class);
    }

    private static SplicedLoom rootOnly(String nets) {
        return Looms.told("board slack 4 joint 1;node r;plug p on r holes 12 gauge 1 to 9;" + nets);
    }

    /** A BUNDLE of 5 from p to q with NETS of these GAUGES through it. */
    private static SplicedLoom body(int... gauges) {
        StringBuilder text = new StringBuilder(Looms.R).append("node a off r up long 5;plug p on r holes 12 gauge 1 to 9;"
            + "plug q on a holes 12 gauge 1 to 9");
        for (int i = 0; i < gauges.length; i++) {
            text.append(";net n").append((char) ('a' + i)).append(" ground gauge ").append(gauges[i]).append(" of p ")
                .append(i).append(",q ").append(i);
        }
        return Looms.told(text.toString());
    }

    /** Ten NETS of GAUGE 9, five PINS each at the ROOT, and thirteen BUNDLES of 999, one behind another. */
    private static SplicedLoom greatest() {
        StringBuilder text = new StringBuilder("board slack 99 joint 99;node a;");
        for (char name = 'b'; name <= 'n'; name++) {
            text.append("node ").append(name).append(" off ").append((char) (name - 1)).append(" up long 999;");
        }
        text.append("plug p on a holes 12 gauge 1 to 9");
        for (char name = 'q'; name <= 'z'; name++) {
            text.append(";net ").append(name).append(" power gauge 9 of p 0,p 1,p 2,p 3,p 4");
        }
        return Looms.told(text.toString());
    }

    // ---- Term II: variants

    @Says(in = "II", words = "VARIANTS: all sets of OPTIONS, as bits.")
    static void variantsOfSoManyOptions() {
        StringBuilder options = new StringBuilder();
        for (int many = 0; many <= 4; many++) {
            String text = Looms.P + options + Looms.N;
            SplicedLoom x = Looms.told(text);
            for (int variant = 0; variant < 1 << many; variant++) {
                Edges.is(x, 1, "plugs", variant);
            }
            for (long variant : Edges.out(1 << many)) {
                Edges.refused(() -> Looms.used(text), -1, 2, "plugs", variant);
            }
            options.append("option o").append((char) ('a' + many)).append(';');
        }
    }

    @Says(in = "II", words = "VARIANTS: all sets of OPTIONS, as bits.")
    static void eachOptionItsBit() {
        SplicedLoom x = Looms.told(Looms.R + "option a;option b;option c;option d;plug e on r holes 1 gauge 1 to 9 with a;"
            + "plug f on r holes 1 gauge 1 to 9 with b;plug g on r holes 1 gauge 1 to 9 with c;"
            + "plug h on r holes 1 gauge 1 to 9 with d;net n power gauge 1 of e 0,f 0,g 0,h 0");
        for (int variant = 0; variant < 16; variant++) {
            Edges.is(x, variant, "plugs", variant);
            Edges.is(x, variant, "pins", variant, 0);
        }
    }

    @Says(in = "II", words = "A PLUG, a NET is THERE in a VARIANT by its WHEN (always without one).")
    static void thereByWhen() {
        SplicedLoom x = Looms.told(Looms.R + "option x;option y;plug p on r holes 9 gauge 1 to 9;"
            + "plug q on r holes 9 gauge 1 to 9 with y;plug s on r holes 9 gauge 1 to 9 without y;"
            + "plug t on r holes 9 gauge 1 to 9 without x;net n power gauge 1 of p 0,p 1;"
            + "net m power gauge 1 with x of p 0,p 1;net k power gauge 1 without x of p 0,p 1;"
            + "net h power gauge 1 without y of p 0,p 1");
        int[] plugs = {1 | 4 | 8, 1 | 4, 1 | 2 | 8, 1 | 2};
        int[][] there = {{3, 0, 3, 3}, {3, 3, 0, 3}, {3, 0, 3, 0}, {3, 3, 0, 0}};
        for (int variant = 0; variant < 4; variant++) {
            Edges.is(x, plugs[variant], "plugs", variant);
            for (int net = 0; net < 4; net++) {
                Edges.is(x, there[variant][net], "pins", variant, net);
            }
        }
    }

    @Says(in = "II", words = "A NET's PINS in a VARIANT: if it is THERE, those at PLUGS that are THERE, as told;")
    static void pinsInAVariant() {
        SplicedLoom x = Looms.told(Looms.R + "option x;option y;plug p on r holes 9 gauge 1 to 9 without x;"
            + "plug q on r holes 9 gauge 1 to 9;net n power gauge 1 of q 0,p 0,q 1,p 1,q 2;"
            + "net m power gauge 1 with y of p 4,q 4,p 5");
        int[][] want = {{31, 0}, {21, 0}, {31, 7}, {21, 2}};
        for (int variant = 0; variant < 4; variant++) {
            Edges.is(x, want[variant][0], "pins", variant, 0);
            Edges.is(x, want[variant][1], "pins", variant, 1);
            Edges.is(x, 5, "net", 0, 2);
        }
    }

    private static final String FEW = Looms.R + "node a off r up long 5;option x;plug p on r holes 9 gauge 1 to 9;"
        + "plug q on a holes 9 gauge 1 to 9 with x;net n power gauge 1 of q 0,p 0;net m power gauge 1 of q 1,q 2;"
        + "net k power gauge 1 of q 3,q 4,p 3;net h power gauge 1 with x of p 5,p 6";

    @Says(in = "II", words = "fewer than two: it DANGLES with one, and has no WIRES.")
    static void fewerThanTwoPins() {
        SplicedLoom x = Looms.told(FEW);
        int[] pins = {2, 0, 4, 0};
        for (int net = 0; net < 4; net++) {
            Edges.is(x, pins[net], "pins", 0, net);
            Edges.is(x, 0, "wires", 0, net);
            Edges.is(x, -2, "splice", 0, net);
        }
        Edges.is(x, 0, "total", 0, 0);
        Edges.is(x, 0, "bundle", 0, 1, 0);
        Edges.is(x, 0, "bundle", 0, 1, 1);
        Edges.is(x, 0, "through", 0, 1);
        // n and k DANGLE with one PIN; m and h with none do not
        Edges.is(x, 2, "flaws", 0);
        Edges.is(x, 0, "flaw", 0, 0, 1);
        Edges.is(x, 2, "flaw", 0, 1, 1);
        Edges.is(x, 0, "flaws", 1);
        Edges.refused(() -> Looms.used(FEW), -1, 5, "wire", 0, 0, 1);
        Edges.refused(() -> Looms.used(FEW), -1, 5, "wire", 0, 1, 0);
    }

    @Says(in = "II", words = "fewer than two: it DANGLES with one, and has no WIRES.")
    static void spliceByHandOfOneThatDangles() {
        SplicedLoom x = Looms.told(FEW);
        x.splices(0, 1);
        x.splices(2, 1);
        Edges.is(x, -2, "splice", 0, 0);
        Edges.is(x, -2, "splice", 0, 2);
        Edges.is(x, 0, "wires", 0, 2);
        Edges.is(x, 0, "total", 0, 0);
        Edges.is(x, 0, "bundle", 0, 1, 0);
        Edges.is(x, 0, "through", 0, 1);
    }

    // ---- Term II: wires

    @Says(in = "II", words = "WIRES of a NET of some PINS: of two: one WIRE, its length: FAR of their PLUGS' NODES and twice SLACK.")
    static void oneWireOfTwoPins() {
        SplicedLoom x = Looms.loom();
        Edges.is(x, 1, "wires", 0, 0);
        Edges.is(x, 10 + 2 * 2, "wire", 0, 0, 0);
        Edges.is(x, 10 + 2 * 2, "wire", 0, 0, 1);
        // it goes the whole way from the one to the other
        Edges.is(x, 5, "through", 0, 2);
        Edges.is(x, 5, "through", 0, 3);
        // a SPLICE by hand is none of two PINS
        x.splices(0, 4);
        Edges.is(x, 14, "wire", 0, 0, 0);
        Edges.is(x, 1, "wires", 0, 0);
        Edges.is(x, 0, "through", 0, 4);
        SplicedLoom one = rootOnly("net n power gauge 1 of p 0,p 1");
        Edges.is(one, 8, "wire", 0, 0, 0);
        Edges.is(one, 8, "wire", 0, 0, 1);
        Edges.is(one, 8, "total", 0, 0);
    }

    @Says(in = "II", words = "Of more: a SPLICE at a NODE; to each PIN a WIRE, its length: FAR from there, SLACK and JOINT.")
    static void aWireToEachPin() {
        SplicedLoom x = Looms.loom();
        int[] n = {4 + 2 + 3, 6 + 2 + 3, 15 + 2 + 3};
        int[] k = {14 + 2 + 3, 16 + 2 + 3, 5 + 2 + 3, 2 + 3};
        Edges.is(x, 3, "wires", 1, 0);
        Edges.is(x, 4, "wires", 1, 2);
        for (int pin = 0; pin < 3; pin++) {
            Edges.is(x, n[pin], "wire", 1, 0, pin);
        }
        for (int pin = 0; pin < 4; pin++) {
            Edges.is(x, k[pin], "wire", 1, 2, pin);
        }
        // all at one NODE: a SPLICE all the same
        SplicedLoom three = rootOnly("net n power gauge 1 of p 0,p 1,p 2");
        Edges.is(three, 0, "splice", 0, 0);
        Edges.is(three, 3, "wires", 0, 0);
        Edges.is(three, 5, "wire", 0, 0, 2);
        SplicedLoom five = rootOnly("net n power gauge 1 of p 0,p 1,p 2,p 3,p 4");
        Edges.is(five, 5, "wires", 0, 0);
        Edges.is(five, 5, "wire", 0, 0, 4);
        Edges.is(five, 25, "total", 0, 1);
    }

    @Says(in = "II", words = "The SPLICE is at the NODE told by hand, if one was,")
    static void spliceToldByHand() {
        SplicedLoom x = Looms.loom();
        for (int node = 0; node < 5; node++) {
            x.splices(0, node);
            Edges.is(x, node, "splice", 1, 0);
            Edges.is(x, node, "splice", 3, 0);
        }
        // at d: 19, 21 and 0 there, and SLACK and JOINT of each
        Edges.is(x, 19 + 5, "wire", 1, 0, 0);
        Edges.is(x, 21 + 5, "wire", 1, 0, 1);
        Edges.is(x, 5, "wire", 1, 0, 2);
        Edges.is(x, 3, "wires", 1, 0);
        // it is of that NET alone
        Edges.is(x, 1, "splice", 3, 2);
        x.splices(0, -1);
        Edges.is(x, 1, "splice", 1, 0);
    }

    @Says(in = "II", words = "else at that from which all FAR together is least, of several the first.")
    static void leastWireOfSeveralTheFirst() {
        SplicedLoom x = Looms.loom();
        Edges.is(x, 1, "splice", 1, 0);
        // from r and from a it is 35
        Edges.is(x, 35, "reach", 1, 2, 0);
        Edges.is(x, 35, "reach", 1, 2, 1);
        Edges.is(x, 0, "splice", 1, 2);
        // by one less from the one, by one more from the other
        String line = Looms.R + "node a off r up long 5;node b off a up long 5;plug p on r holes 9 gauge 1 to 9;"
            + "plug q on a holes 9 gauge 1 to 9;plug s on b holes 9 gauge 1 to 9;net n power gauge 1 of ";
        Edges.is(Looms.told(line + "p 0,p 1,q 0,q 1"), 0, "splice", 0, 0);
        Edges.is(Looms.told(line + "p 0,q 1,q 0"), 1, "splice", 0, 0);
        Edges.is(Looms.told(line + "s 0,s 1,q 0,q 1"), 1, "splice", 0, 0);
        Edges.is(Looms.told(line + "s 0,s 1,s 2,q 1"), 2, "splice", 0, 0);
        Edges.is(Looms.told(line + "p 0,p 1,s 1,s 0"), 0, "splice", 0, 0);
        Edges.is(Looms.told(line + "s 0,s 1,p 0,p 1,q 0"), 1, "splice", 0, 0);
    }

    @Says(in = "II", words = "else at that from which all FAR together is least, of several the first.")
    static void spliceMovesWithLengths() {
        SplicedLoom x = Looms.loom();
        // r-d 6: from r 36, from a 36, as far as before; r-a 9: from r 33, from a 33
        x.stretch(4, 6);
        Edges.is(x, 0, "splice", 1, 2);
        x.stretch(1, 9);
        Edges.is(x, 0, "splice", 1, 2);
        // where no PLUG is at the NODE at which the ways meet
        Edges.is(x, 1, "splice", 1, 0);
        // the last NODE of fourteen
        SplicedLoom y = Looms.told(Looms.R + lastOf13() + "plug p on nm holes 9 gauge 1 to 9;"
            + "net n power gauge 1 of p 0,p 1,p 2");
        Edges.is(y, 13, "splice", 0, 0);
        Edges.is(y, 0, "wire", 0, 0, 0);
        Edges.is(y, 3, "reach", 0, 0, 0);
    }

    private static String lastOf13() {
        StringBuilder nodes = new StringBuilder();
        for (char name = 'a'; name <= 'm'; name++) {
            nodes.append("node n").append(name).append(" off r up long 1;");
        }
        return nodes.toString();
    }

    // ---- Term II: bundles

    @Says(in = "II", words = "In a VARIANT, of a BUNDLE: COUNT: how many WIRES run through it;")
    static void countOfABundle() {
        SplicedLoom x = Looms.loom();
        int[][] want = {{1, 2, 2, 0}, {3, 3, 3, 2}, {0, 2, 2, 0}, {2, 3, 3, 2}};
        for (int variant = 0; variant < 4; variant++) {
            for (int node = 1; node < 5; node++) {
                Edges.is(x, want[variant][node - 1], "bundle", variant, node, 0);
            }
        }
        // two PINS at one NODE need a WIRE each: both run through
        SplicedLoom y = Looms.told(Looms.R + "node a off r up long 5;plug p on r holes 9 gauge 1 to 9;"
            + "plug q on a holes 9 gauge 1 to 9;net n power gauge 1 of q 0,q 1,p 0");
        Edges.is(y, 1, "bundle", 0, 1, 0);
        y.splices(0, 0);
        Edges.is(y, 2, "bundle", 0, 1, 0);
        Edges.is(y, 1, "through", 0, 1);
        SplicedLoom most = greatest();
        for (int net = 0; net < 10; net++) {
            most.splices(net, 13);
        }
        Edges.is(most, 50, "bundle", 0, 1, 0);
        Edges.is(most, 50, "bundle", 0, 13, 0);
    }

    @Says(in = "II", words = "BODY: the squares of their GAUGES together;")
    static void bodyOfABundle() {
        for (int gauge = 1; gauge < 10; gauge++) {
            Edges.is(body(gauge), gauge * gauge, "bundle", 0, 1, 1);
        }
        Edges.is(body(3, 4), 25, "bundle", 0, 1, 1);
        Edges.is(body(9, 9, 9, 9, 9, 9, 9, 9, 9, 9), 810, "bundle", 0, 1, 1);
        SplicedLoom x = Looms.loom();
        int[] want = {12, 33, 33, 8};
        for (int node = 1; node < 5; node++) {
            Edges.is(x, want[node - 1], "bundle", 1, node, 1);
        }
        Edges.is(x, 0, "bundle", 0, 4, 1);
        SplicedLoom most = greatest();
        Edges.is(most, 0, "bundle", 0, 13, 1);
        for (int net = 0; net < 10; net++) {
            most.splices(net, 13);
        }
        Edges.is(most, 4050, "bundle", 0, 13, 1);
    }

    @Says(in = "II", words = "ROUND: the least WHOLE whose square is no less than 12 times BODY by 10.")
    static void roundOfABundle() {
        // by BODY: 0; 1.2; 4.8; 10.8; 19.2; 30; 43.2; 58.8; 76.8; 97.2
        int[] want = {0, 2, 3, 4, 5, 6, 7, 8, 9, 10};
        for (int gauge = 1; gauge < 10; gauge++) {
            Edges.is(body(gauge), want[gauge], "bundle", 0, 1, 2);
        }
        Edges.is(Looms.loom(), 0, "bundle", 0, 4, 2);
        // 36 just: BODY 30; 37.2: BODY 31; 34.8: BODY 29
        Edges.is(body(5, 2, 1), 6, "bundle", 0, 1, 2);
        Edges.is(body(5, 2, 1, 1), 7, "bundle", 0, 1, 2);
        Edges.is(body(5, 2), 6, "bundle", 0, 1, 2);
        // 16.8, above 16 by less than a whole: BODY 14
        Edges.is(body(3, 2, 1), 5, "bundle", 0, 1, 2);
        // 15.6: BODY 13
        Edges.is(body(3, 2), 4, "bundle", 0, 1, 2);
        // 144 just: BODY 120
        Edges.is(body(9, 6, 1, 1, 1), 12, "bundle", 0, 1, 2);
        Edges.is(body(9, 6, 2), 13, "bundle", 0, 1, 2);
        SplicedLoom most = greatest();
        for (int net = 0; net < 10; net++) {
            most.splices(net, 13);
        }
        // 4860
        Edges.is(most, 70, "bundle", 0, 7, 2);
    }

    // ---- promises

    @Says(in = "The calls", words = "---- variants: 1 (no such NET, PIN, BUNDLE, what); 2 (no such VARIANT).")
    static void noSuchNetPinBundleWhat() {
        for (long net : Edges.out(3)) {
            Edges.refused(1, "pins", 0, net);
            Edges.refused(1, "splice", 0, net);
            Edges.refused(1, "wires", 0, net);
            Edges.refused(1, "wire", 0, net, 0);
            Edges.refused(1, "reach", 0, net, 0);
        }
        for (long pin : Edges.out(3)) {
            Edges.refused(1, "wire", 0, 0, pin);
        }
        for (long node : Edges.out(5)) {
            Edges.refused(1, "bundle", 0, node, 0);
            Edges.refused(1, "through", 0, node);
        }
        for (long what : Edges.out(3)) {
            Edges.refused(1, "bundle", 0, 1, what);
        }
    }

    @Says(in = "The calls", words = "---- variants: 1 (no such NET, PIN, BUNDLE, what); 2 (no such VARIANT).")
    static void noSuchVariant() {
        for (long variant : new long[] {-1, 4, 15, 16, MIN, MAX, 1L << 31 | 1}) {
            Edges.refused(2, "plugs", variant);
            Edges.refused(2, "pins", variant, 0);
            Edges.refused(2, "splice", variant, 0);
            Edges.refused(2, "wires", variant, 0);
            Edges.refused(2, "wire", variant, 0, 0);
            Edges.refused(2, "reach", variant, 0, 0);
            Edges.refused(2, "total", variant, 0);
            Edges.refused(2, "bundle", variant, 1, 0);
            Edges.refused(2, "thickest", variant);
            Edges.refused(2, "through", variant, 1);
        }
    }

    @Says(in = "Promise 21", words = "PLUGS that are THERE, as bits.")
    static void plugsAsBits() {
        int[] want = {11, 15, 3, 7};
        for (int variant = 0; variant < 4; variant++) {
            Edges.is(Looms.loom(), want[variant], "plugs", variant);
        }
        StringBuilder eight = new StringBuilder(Looms.R + "option x;");
        for (char name = 'a'; name <= 'h'; name++) {
            eight.append("plug p").append(name).append(" on r holes 2 gauge 1 to 9")
                .append(name < 'h' ? " with x;" : ";");
        }
        SplicedLoom x = Looms.told(eight + "net n power gauge 1 of pa 0,pa 1");
        Edges.is(x, 128, "plugs", 0);
        Edges.is(x, 255, "plugs", 1);
        Edges.is(Looms.told(Looms.R + "option x;plug p on r holes 2 gauge 1 to 9 with x;" + Looms.N), 0, "plugs", 0);
    }

    @Says(in = "Promise 21", words = "NONE: 1 (no HARNESS); 2.")
    static void plugsRefused() {
        Edges.refused(Looms::bare, -1, 1, "plugs", 0);
        Edges.refused(Looms::bare, -1, 1, "plugs", -1);
        for (long variant : Edges.out(4)) {
            Edges.refused(2, "plugs", variant);
        }
    }

    @Says(in = "Promise 22", words = "PINS that a NET has, as bits.")
    static void pinsAsBits() {
        int[][] want = {{3, 0, 11}, {7, 3, 15}, {3, 0, 3}, {7, 3, 7}};
        SplicedLoom x = Looms.loom();
        for (int variant = 0; variant < 4; variant++) {
            for (int net = 0; net < 3; net++) {
                Edges.is(x, want[variant][net], "pins", variant, net);
            }
        }
        Edges.is(rootOnly("net n power gauge 1 of p 9,p 8,p 7,p 6,p 5"), 31, "pins", 0, 0);
    }

    @Says(in = "Promise 22", words = "NONE: 1; 2.")
    static void pinsRefused() {
        Edges.refused(Looms::bare, -1, 1, "pins", 0, 0);
        for (long net : Edges.out(3)) {
            Edges.refused(1, "pins", 3, net);
            Edges.refused(1, "pins", 4, net);
        }
        for (long variant : Edges.out(4)) {
            Edges.refused(2, "pins", variant, 2);
        }
    }

    @Says(in = "Promise 23", words = "The NODE of its SPLICE; -2 without one.")
    static void nodeOfTheSplice() {
        int[][] want = {{-2, -2, 1}, {1, -2, 0}, {-2, -2, -2}, {1, -2, 1}};
        SplicedLoom x = Looms.loom();
        for (int variant = 0; variant < 4; variant++) {
            for (int net = 0; net < 3; net++) {
                Edges.is(x, want[variant][net], "splice", variant, net);
            }
        }
        // told by hand, it is there only where the NET has three PINS
        x.splices(0, 2);
        x.splices(1, 2);
        for (int variant = 0; variant < 4; variant++) {
            Edges.is(x, variant % 2 == 1 ? 2 : -2, "splice", variant, 0);
            Edges.is(x, -2, "splice", variant, 1);
        }
    }

    @Says(in = "Promise 23", words = "NONE: 1; 2.")
    static void spliceRefused() {
        Edges.refused(Looms::bare, -1, 1, "splice", 0, 0);
        for (long net : Edges.out(3)) {
            Edges.refused(1, "splice", 3, net);
            Edges.refused(1, "splice", 4, net);
        }
        for (long variant : Edges.out(4)) {
            Edges.refused(2, "splice", variant, 2);
        }
    }

    @Says(in = "Promise 24", words = "How many WIRES it has.")
    static void howManyWires() {
        int[][] want = {{1, 0, 3}, {3, 1, 4}, {1, 0, 1}, {3, 1, 3}};
        SplicedLoom x = Looms.loom();
        for (int variant = 0; variant < 4; variant++) {
            for (int net = 0; net < 3; net++) {
                Edges.is(x, want[variant][net], "wires", variant, net);
            }
        }
        Edges.is(rootOnly("net n power gauge 1 of p 9,p 8,p 7,p 6,p 5"), 5, "wires", 0, 0);
        SplicedLoom one = Looms.told(FEW);
        Edges.is(one, 0, "wires", 0, 0);
        Edges.is(one, 1, "wires", 1, 0);
        Edges.is(one, 1, "wires", 1, 1);
    }

    @Says(in = "Promise 24", words = "NONE: 1; 2.")
    static void wiresRefused() {
        Edges.refused(Looms::bare, -1, 1, "wires", 0, 0);
        for (long net : Edges.out(3)) {
            Edges.refused(1, "wires", 3, net);
            Edges.refused(1, "wires", 4, net);
        }
        for (long variant : Edges.out(4)) {
            Edges.refused(2, "wires", variant, 2);
        }
    }

    @Says(in = "Promise 25", words = "The length of its WIRE to its k-th PIN as told (of two PINS: to either).")
    static void wireToThePinAsTold() {
        SplicedLoom x = Looms.loom();
        // k in VARIANT 0: s is not there, t is the fourth as told
        Edges.is(x, 9, "wire", 0, 2, 0);
        Edges.is(x, 11, "wire", 0, 2, 1);
        Edges.is(x, 15, "wire", 0, 2, 3);
        // of two, told as the first and the third
        SplicedLoom y = Looms.told(Looms.R + "node a off r up long 7;option x;plug p on r holes 9 gauge 1 to 9;"
            + "plug q on a holes 9 gauge 1 to 9;plug s on r holes 9 gauge 1 to 9 with x;"
            + "net n power gauge 1 of p 0,s 0,q 0");
        Edges.is(y, 7, "wire", 0, 0, 0);
        Edges.is(y, 7, "wire", 0, 0, 2);
        Edges.is(y, 0, "wire", 1, 0, 0);
        Edges.is(y, 0, "wire", 1, 0, 1);
        Edges.is(y, 7, "wire", 1, 0, 2);
        SplicedLoom far = greatest();
        far.splices(9, 13);
        Edges.is(far, 13 * 999 + 198, "wire", 0, 9, 4);
    }

    @Says(in = "Promise 25", words = "NONE: 1; 2; 5 (it has no WIRE there).")
    static void noWireThere() {
        // a PIN that isn't there of a NET of two, of three; a NET that isn't there, or dangles
        Edges.refused(5, "wire", 0, 0, 2);
        Edges.refused(5, "wire", 0, 2, 2);
        Edges.refused(5, "wire", 3, 2, 3);
        Edges.refused(5, "wire", 0, 1, 0);
        Edges.refused(5, "wire", 2, 1, 1);
        Edges.refused(() -> Looms.used(FEW), -1, 5, "wire", 0, 0, 0);
        Edges.refused(() -> Looms.used(FEW), -1, 5, "wire", 0, 2, 2);
        Edges.refused(() -> Looms.used(FEW), -1, 5, "wire", 0, 3, 1);
    }

    @Says(in = "Promise 25", words = "NONE: 1; 2; 5 (it has no WIRE there).")
    static void wireRefused() {
        Edges.refused(Looms::bare, -1, 1, "wire", 0, 0, 0);
        int[] pins = {3, 2, 4};
        for (int net = 0; net < 3; net++) {
            for (long k : Edges.out(pins[net])) {
                Edges.refused(1, "wire", 0, net, k);
                Edges.refused(1, "wire", 4, net, k);
            }
        }
        for (long net : Edges.out(3)) {
            Edges.refused(1, "wire", 1, net, 0);
        }
        for (long variant : Edges.out(4)) {
            Edges.refused(2, "wire", variant, 0, 0);
            Edges.refused(2, "wire", variant, 1, 1);
        }
    }

    @Says(in = "Promise 26", words = "All FAR together from a NODE to PINS that a NET has.")
    static void reachFromANode() {
        SplicedLoom x = Looms.loom();
        int[] n = {30, 10, 10, 10, 40};
        int[] n1 = {35, 25, 29, 31, 40};
        for (int node = 0; node < 5; node++) {
            Edges.is(x, n[node], "reach", 0, 0, node);
            Edges.is(x, n1[node], "reach", 1, 0, node);
            Edges.is(x, 0, "reach", 0, 1, node);
        }
        // by hand or not, it is from the NODE asked
        x.splices(0, 4);
        Edges.is(x, 25, "reach", 1, 0, 1);
        // of one that DANGLES its one PIN, of two PINS at one NODE both
        SplicedLoom y = Looms.told(FEW);
        Edges.is(y, 5, "reach", 0, 0, 1);
        Edges.is(y, 0, "reach", 0, 0, 0);
        Edges.is(y, 0, "reach", 0, 1, 0);
        Edges.is(y, 10, "reach", 1, 1, 0);
        Edges.is(greatest(), 5 * 13 * 999, "reach", 0, 0, 13);
    }

    @Says(in = "Promise 26", words = "NONE: 1 (no such NODE, too); 2.")
    static void reachRefused() {
        Edges.refused(Looms::bare, -1, 1, "reach", 0, 0, 0);
        for (long node : Edges.out(5)) {
            Edges.refused(1, "reach", 0, 0, node);
            Edges.refused(1, "reach", 4, 0, node);
        }
        for (long net : Edges.out(3)) {
            Edges.refused(1, "reach", 0, net, 4);
        }
        for (long variant : Edges.out(4)) {
            Edges.refused(2, "reach", variant, 2, 4);
        }
    }

    @Says(in = "Promise 27", words = "Lengths of all WIRES of a GAUGE (0: of all) together.")
    static void lengthsOfAGauge() {
        SplicedLoom x = Looms.loom();
        int[] all = {49, 109, 28, 94};
        for (int variant = 0; variant < 4; variant++) {
            int m = variant % 2 == 1 ? 14 : 0;
            for (int gauge = 0; gauge < 10; gauge++) {
                int want = gauge == 0 ? all[variant] : gauge == 2 ? all[variant] - m : gauge == 5 ? m : 0;
                Edges.is(x, want, "total", variant, gauge);
            }
        }
        SplicedLoom far = greatest();
        for (int net = 0; net < 10; net++) {
            far.splices(net, 13);
        }
        Edges.is(far, 50 * (13 * 999 + 198), "total", 0, 0);
        Edges.is(far, 50 * (13 * 999 + 198), "total", 0, 9);
        Edges.is(far, 0, "total", 0, 1);
    }

    @Says(in = "Promise 27", words = "NONE: 1 (no HARNESS, GAUGE); 2.")
    static void totalRefused() {
        Edges.refused(Looms::bare, -1, 1, "total", 0, 0);
        for (long gauge : Edges.out(10)) {
            Edges.refused(1, "total", 0, gauge);
            Edges.refused(1, "total", 4, gauge);
        }
        for (long variant : Edges.out(4)) {
            Edges.refused(2, "total", variant, 0);
            Edges.refused(2, "total", variant, 9);
        }
    }

    @Says(in = "Promise 28", words = "Of a BUNDLE (by its NODE, not the ROOT) 0 COUNT, 1 BODY, 2 ROUND.")
    static void bundleByItsNode() {
        SplicedLoom x = Looms.loom();
        int[][] want = {{3, 12, 4}, {3, 33, 7}, {3, 33, 7}, {2, 8, 4}};
        for (int node = 1; node < 5; node++) {
            for (int what = 0; what < 3; what++) {
                Edges.is(x, want[node - 1][what], "bundle", 1, node, what);
            }
        }
        for (int what = 0; what < 3; what++) {
            Edges.refused(1, "bundle", 1, 0, what);
        }
        Edges.refused(() -> Looms.used(Looms.P + Looms.N), -1, 1, "bundle", 0, 0, 0);
    }

    @Says(in = "Promise 28", words = "NONE: 1; 2.")
    static void bundleRefused() {
        Edges.refused(Looms::bare, -1, 1, "bundle", 0, 1, 0);
        for (long node : Edges.out(5)) {
            Edges.refused(1, "bundle", 0, node, 2);
            Edges.refused(1, "bundle", 4, node, 2);
        }
        for (long what : Edges.out(3)) {
            Edges.refused(1, "bundle", 0, 4, what);
            Edges.refused(1, "bundle", 4, 4, what);
        }
        for (long variant : Edges.out(4)) {
            Edges.refused(2, "bundle", variant, 4, 2);
        }
    }

    @Says(in = "Promise 29", words = "The BUNDLE of the greatest BODY, of several the first;")
    static void thickestOfSeveral() {
        SplicedLoom x = Looms.loom();
        for (int variant = 0; variant < 4; variant++) {
            Edges.is(x, 2, "thickest", variant);
        }
        // the SPLICE of k at d: three WIRES of it through r-d, one and that of n through a-b and a-c, two through r-a
        x.splices(2, 4);
        Edges.is(x, 4, "thickest", 0);
        // the greatest BODY, not the greatest COUNT: two of 1 to a, one of 2 to b
        SplicedLoom y = Looms.told(Looms.R + "node a off r up long 1;node b off r down long 1;"
            + "plug p on r holes 9 gauge 1 to 9;plug q on a holes 9 gauge 1 to 9;plug s on b holes 9 gauge 1 to 9;"
            + "net n power gauge 1 of p 0,q 0;net m power gauge 1 of p 1,q 1;net k power gauge 2 of p 2,s 0");
        Edges.is(y, 2, "thickest", 0);
        // all as thin: no WIRE runs through any
        Edges.is(Looms.told(Looms.R + "node a off r up long 1;node b off r up long 1;"
            + "plug p on r holes 9 gauge 1 to 9;" + Looms.N), 1, "thickest", 0);
        SplicedLoom z = Looms.told(Looms.R + lastOf13() + "plug p on nm holes 9 gauge 1 to 9;"
            + "plug q on r holes 9 gauge 1 to 9;net n power gauge 1 of p 0,q 1");
        Edges.is(z, 13, "thickest", 0);
    }

    @Says(in = "Promise 29", words = "-2 without BUNDLES.")
    static void thickestWithoutBundles() {
        Edges.is(rootOnly("net n power gauge 1 of p 0,p 1"), -2, "thickest", 0);
        Edges.is(rootOnly("option x;net n power gauge 1 of p 0,p 1,p 2"), -2, "thickest", 1);
    }

    @Says(in = "Promise 29", words = "NONE: 1 (no HARNESS); 2.")
    static void thickestRefused() {
        Edges.refused(Looms::bare, -1, 1, "thickest", 0);
        Edges.refused(Looms::bare, -1, 1, "thickest", 4);
        for (long variant : Edges.out(4)) {
            Edges.refused(2, "thickest", variant);
        }
        // without BUNDLES, too
        Edges.refused(() -> Looms.used(Looms.P + Looms.N), -1, 2, "thickest", 1);
    }

    @Says(in = "Promise 30", words = "WIRES that run through a BUNDLE, by NETS as bits.")
    static void netsThroughABundle() {
        SplicedLoom x = Looms.loom();
        int[][] want = {{4, 5, 5, 0}, {5, 7, 7, 5}, {0, 5, 5, 0}, {5, 7, 7, 5}};
        for (int variant = 0; variant < 4; variant++) {
            for (int node = 1; node < 5; node++) {
                Edges.is(x, want[variant][node - 1], "through", variant, node);
            }
        }
        SplicedLoom ten = greatest();
        Edges.is(ten, 0, "through", 0, 13);
        ten.splices(9, 13);
        Edges.is(ten, 512, "through", 0, 13);
        for (int net = 0; net < 9; net++) {
            ten.splices(net, 13 - net);
        }
        Edges.is(ten, 513, "through", 0, 13);
        Edges.is(ten, 1023, "through", 0, 5);
        Edges.is(ten, 1023, "through", 0, 1);
    }

    @Says(in = "Promise 30", words = "NONE: 1; 2.")
    static void throughRefused() {
        Edges.refused(Looms::bare, -1, 1, "through", 0, 1);
        Edges.refused(1, "through", 0, 0);
        for (long node : Edges.out(5)) {
            Edges.refused(1, "through", 0, node);
            Edges.refused(1, "through", 4, node);
        }
        for (long variant : Edges.out(4)) {
            Edges.refused(2, "through", variant, 4);
        }
    }
}
