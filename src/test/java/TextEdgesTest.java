/** Term I: the edges of the text. A sign ^ in a text stands ahead of the place of its FAULT (none: at the end). */
public final class TextEdgesTest {
    private static final String B = Looms.B;
    private static final String R = Looms.R;
    private static final String P = Looms.P;
    private static final String O = Looms.O;
    private static final String N = Looms.N;
    private static final String[] RESERVED =
        {"board", "node", "option", "plug", "net", "build", "off", "with", "without", "of"};
    private static final String[] WORDS = {"slack", "joint", "long", "up", "right", "down", "left", "on", "holes",
        "gauge", "to", "power", "signal", "ground"};

    public static void main(String[] args) {
        Edges.run(TextEdgesTest.class);
    }

    private static void fault(int number, String marked) {
        Edges.fault(number, marked);
    }

    private static SplicedLoom good(String text) {
        return Edges.good(text);
    }

    /** The line once for each letter from a on, in the stead of @. */
    private static String times(int many, String line) {
        StringBuilder all = new StringBuilder();
        for (int i = 0; i < many; i++) {
            all.append(line.replace('@', (char) ('a' + i)));
        }
        return all.toString();
    }

    // ---- the tape and its tokens

    @Says(in = "I", words = "THE TEXT of a HARNESS (THE TAPE has 1,000 bytes;")
    static void thousandBytesAreRead() {
        String text = P + "net n power gauge 1 of p 0,p " + " ".repeat(1000 - P.length() - 30) + "11";
        Bench.due("bytes of the text", text.length(), 1000 + 1);
        text = text.substring(0, 1000);
        SplicedLoom x = good(text);
        Edges.is(x, 1, "pin", 0, 1, 1);
        Edges.says(x, 0, "size", 0);
        SplicedLoom y = new SplicedLoom();
        Bench.feedAll(y, text);
        Edges.says(y, 1000, "size", 0);
        // without its last byte the last PIN has no CAVITY
        Bench.due("harness(999)", y.harness(999), -1);
        Bench.due("fault()", y.fault(), 1);
        Bench.due("where()", y.where(), 999);
        Edges.faultAt(1, 999, text.substring(0, 999) + "#");
    }

    @Says(in = "I", words = "blanks, 32, part TOKENS and mean nothing else;")
    static void blanksOnlyPart() {
        good("board slack0joint0;node r;plug p on r holes12gauge1to9;net n power gauge1of p0,p1;build1");
        good("   board   slack   0   joint   0   ;   node   r   ;   plug   p   on   r   holes   12   gauge   1   to   9"
            + "   ;   net   n   power   gauge   1   of   p   0   ,   p   1   ;   build   1   ");
        Edges.is(good(P + "net n power gauge 1 of p 1 , p 11"), 11, "pin", 0, 1, 1);
        fault(1, B + "^no de r");
        fault(1, "board slack 1 ^0 joint 0");
        fault(1, P + "net n power gauge 1 of p 1 ^1,p 2");
        fault(1, B + "node r ^s");
    }

    @Says(in = "I", words = "blanks, 32, part TOKENS and mean nothing else;")
    static void otherBytesAreNoBlanks() {
        for (char other : new char[] {0, 9, 10, 13, 31, 33, 127, 128, 160, 255}) {
            fault(1, "^" + other + B + "node r");
            fault(1, "board^" + other + "slack 0 joint 0");
            fault(1, B + "node r^" + other);
        }
    }

    @Says(in = "I", words = "TOKENS: WORDS of 1 to 7 small letters that stand together,")
    static void wordsOfOneToSeven() {
        SplicedLoom x = good(B + "node z;plug abcdefg on z holes 2 gauge 1 to 1;net a power gauge 1 of abcdefg 0,abcdefg 1");
        Edges.is(x, 0, "named", 'z');
        Edges.is(x, 300, "named", 'a');
        Edges.is(x, 200, "named", Bench.name("abcdefg"));
        fault(1, B + "node ^abcdefgh");
        fault(1, B + "node ^zzzzzzzzzzzzzzzzzzzzzzzzzzzzzzzzzzzz;");
        fault(1, "^boardslack 0 joint 0");
        for (char other : new char[] {'`', '{', 'A', 'Z', '@', '[', '_', '-', '\'', 0xE9}) {
            fault(1, B + "node ^" + other);
            fault(1, B + "node a^" + other + "b");
        }
    }

    @Says(in = "I", words = "WHOLES of 1 to 3 digits that do,")
    static void wholesOfOneToThree() {
        Edges.is(good("board slack 9 joint 09;node r;plug p on r holes 002 gauge 1 to 1;" + N), 9, "about", 1);
        Edges.is(good(R + "node a off r up long 999;plug p on r holes 2 gauge 1 to 1;" + N), 999, "node", 1, 1);
        Edges.is(good("board slack 000 joint 099;node r;plug p on r holes 2 gauge 1 to 1;" + N), 0, "about", 0);
        fault(1, "board slack ^0000 joint 0");
        fault(1, "board slack ^0009 joint 0");
        fault(1, R + "node a off r up long ^1000");
        fault(1, "board slack ^99999999999999999999999999999999 joint 0");
        // what would be good by the wrap-around of an int or a long
        fault(1, "board slack ^4294967296 joint 0");
        fault(1, "board slack ^18446744073709551616 joint 0");
        fault(1, "board slack ^/ joint 0");
        fault(1, "board slack ^: joint 0");
        fault(1, "board slack 1^/ joint 0");
        fault(1, "board slack 1^: joint 0");
        fault(1, "board slack ^-1 joint 0");
        fault(1, "board slack ^+1 joint 0");
        fault(1, "board slack 0^.5 joint 0");
    }

    @Says(in = "I", words = "WHOLES of 1 to 3 digits that do,")
    static void noWordIsAWhole() {
        for (String word : new String[] {"a", "r", "x", "p", "of", "off", "net", "node", "with", "board", "without", "to"}) {
            fault(1, "board slack ^" + word);
            fault(1, "board slack 0 joint ^" + word);
            fault(1, R + "node a off r up long ^" + word);
            fault(1, R + "plug q on r holes ^" + word);
            fault(1, R + "plug q on r holes 1 gauge ^" + word);
            fault(1, R + "plug q on r holes 1 gauge 1 to ^" + word);
            fault(1, O + "net n power gauge ^" + word);
            fault(1, O + "net n power gauge 1 of p ^" + word);
            fault(1, O + "net n power gauge 1 of p 0,p ^" + word);
            fault(1, O + "build ^" + word);
        }
    }

    @Says(in = "I", words = "single ones of ; ,):")
    static void singleOnes() {
        fault(1, B + "^;node r");
        fault(1, B + " ^; node r");
        fault(1, P + "net n power gauge 1 of p 0,^,p 1");
        fault(1, P + "net n power gauge 1 of p 0^;,p 1");
        fault(1, P + "net n power gauge 1 of p 0,p 1,^;");
        fault(1, "board slack 0 joint 0^:node r");
        fault(1, P + "net n power gauge 1 of p 0^.p 1");
        fault(1, P + "net n power gauge 1 of p 0^<p 1");
        fault(1, P + "net n power gauge 1 of p 0^+p 1");
    }

    @Says(in = "I", words = "LINE {; LINE}.")
    static void linesArePartedBySemicolons() {
        fault(6, "board slack 0 joint 0");
        good(P + N);
        fault(1, "^;" + P + N);
        fault(1, P + N + ";");
        fault(1, P + N + ";   ");
        fault(1, P + N + ";^;");
        fault(1, "board slack 0 joint 0 ^node r");
        fault(1, "board slack 0 joint 0^,node r");
        fault(1, "");
        fault(1, "   ");
    }

    @Says(in = "I", words = "LINE, one of:")
    static void oneOfSixLines() {
        for (String word : WORDS) {
            fault(1, R + "^" + word + " a");
        }
        for (String other : new String[] {"off", "with", "without", "of", "r", "x", "5", ",", "nodes", "nod", "nets"}) {
            fault(1, R + "^" + other + " a");
            fault(1, "^" + other + " a");
        }
    }

    // ---- board

    @Says(in = "I", words = "board slack WHOLE joint WHOLE")
    static void boardLine() {
        fault(1, "board");
        fault(1, "board ^joint 0");
        fault(1, "board ^slac 0");
        fault(1, "board ^0 0");
        fault(1, "board slack");
        fault(1, "board slack ^joint 0");
        fault(1, "board slack 0");
        fault(1, "board slack 0 ^slack 0");
        fault(1, "board slack 0 ^;node r");
        fault(1, "board slack 0 joint");
        fault(1, "board slack 0 joint ^;node r");
        fault(1, "board slack 0 joint ^x");
        fault(1, "board slack 0 joint 0 ^0");
        fault(1, "board slack 0 joint 0 ^slack 0");
        fault(1, "board joint 0 slack 0".replace("joint 0 s", "^joint 0 s"));
        fault(1, "board ^board slack 0 joint 0");
    }

    private static final String REST = ";node r;plug p on r holes 12 gauge 1 to 9;" + N;

    @Says(in = "I", words = "(SLACK, JOINT: 0 .. 99),")
    static void leastSlackAndJoint() {
        SplicedLoom x = good("board slack 0 joint 0" + REST);
        Edges.is(x, 0, "about", 0);
        Edges.is(x, 0, "about", 1);
    }

    @Says(in = "I", words = "(SLACK, JOINT: 0 .. 99),")
    static void greatestSlackAndJoint() {
        SplicedLoom x = good("board slack 99 joint 98" + REST);
        Edges.is(x, 99, "about", 0);
        Edges.is(x, 98, "about", 1);
        SplicedLoom y = good("board slack 98 joint 99" + REST);
        Edges.is(y, 98, "about", 0);
        Edges.is(y, 99, "about", 1);
    }

    @Says(in = "I", words = "(SLACK, JOINT: 0 .. 99),")
    static void slackAndJointOutOfBounds() {
        fault(4, "board slack ^100 joint 0" + REST);
        fault(4, "board slack ^999 joint 0" + REST);
        fault(4, "board slack 0 joint ^100" + REST);
        fault(4, "board slack 0 joint ^999" + REST);
    }

    @Says(in = "I", words = "ahead of all others")
    static void boardIsFirst() {
        fault(6, "^node r;board slack 0 joint 0");
        fault(3, R + "^board slack 0 joint 0");
        good(P + N);
    }

    // ---- node

    @Says(in = "I", words = "node NAME [off NODE SIDE long WHOLE]")
    static void nodeLine() {
        fault(1, B + "node");
        fault(1, B + "node ^;");
        fault(1, B + "node ^5");
        fault(1, B + "node ^, r");
        fault(1, R + "node a off");
        fault(1, R + "node a off ^;");
        fault(1, R + "node a off ^0 up long 1");
        fault(1, R + "node a off r");
        fault(1, R + "node a off r ^long 1");
        fault(1, R + "node a off r ^;");
        fault(1, R + "node a off r up");
        fault(1, R + "node a off r up ^5");
        fault(1, R + "node a off r up ^up long 5");
        fault(1, R + "node a off r up long");
        fault(1, R + "node a off r up long ^;");
        fault(1, R + "node a off r up long ^r");
        fault(1, R + "node a off r up long 5 ^5");
        fault(1, R + "node a off r up long 5 ^off r");
    }

    @Says(in = "I", words = "(a NODE; the first one without off, the ROOT;")
    static void rootIsWithoutOff() {
        SplicedLoom x = good(P + N);
        Edges.is(x, -2, "node", 0, 0);
        fault(1, B + "node r ^off r up long 1");
        fault(1, B + "option x;node r ^off x up long 1");
    }

    @Says(in = "I", words = "all others with it:")
    static void othersAreWithOff() {
        fault(1, R + "node a");
        fault(1, R + "node a^;node b off a up long 1");
        fault(1, R + "node a off r up long 1;node b^;");
        fault(1, R + "node a ^up long 1");
    }

    @Says(in = "I", words = "a BUNDLE of 1 .. 999 from that NODE to it, which has its number;")
    static void bundlesOfOneTo999() {
        SplicedLoom x = good(R + "node a off r up long 1;node b off a right long 999;"
            + "plug p on r holes 12 gauge 1 to 9;" + N);
        Edges.is(x, 1, "node", 1, 1);
        Edges.is(x, 999, "node", 2, 1);
        Edges.is(x, 1, "node", 2, 0);
        // the BUNDLE to b is that of number 2: it goes right and ends at b
        Edges.is(x, 1, "side", 2);
        Edges.is(x, 4, "lying", 999, 1);
        Edges.is(x, 6, "lying", 0, 1);
        fault(4, R + "node a off r up long ^0");
        fault(4, R + "node a off r up long ^000;");
        fault(1, R + "node a off r up long ^1000");
    }

    @Says(in = "I", words = "SIDE: up, right, down, or left;")
    static void fourSides() {
        SplicedLoom x = good(R + "node a off r up long 1;node b off r right long 1;node c off r down long 1;"
            + "node d off r left long 1;plug p on r holes 12 gauge 1 to 9;" + N);
        for (int side = 0; side < 4; side++) {
            Edges.is(x, side, "side", side + 1);
        }
        for (String other : new String[] {"upp", "u", "north", "long", "off", "r", "3"}) {
            fault(1, R + "node a off r ^" + other + " long 1");
        }
    }

    @Says(in = "I", words = "numbered from 0; up to 14)")
    static void fourteenNodes() {
        String nodes = times(13, "node n@ off r up long 1;");
        SplicedLoom x = good(R + nodes + "plug p on nm holes 12 gauge 1 to 9;" + N);
        Edges.is(x, 14, "about", 2);
        Edges.is(x, 0, "named", 'r');
        Edges.is(x, 1, "named", Bench.name("na"));
        Edges.is(x, 13, "named", Bench.name("nm"));
        Edges.is(x, 13, "plug", 0, 0);
        fault(5, R + nodes + "^node z off r up long 1");
    }

    // ---- option

    @Says(in = "I", words = "option NAME")
    static void optionLine() {
        fault(1, P + "option");
        fault(1, P + "option ^;");
        fault(1, P + "option ^1");
        fault(1, P + "option x ^y");
        fault(1, P + "option x^,");
        good(P + "option x;" + N);
        good("board slack 0 joint 0;option x;node r;plug p on r holes 2 gauge 1 to 9;" + N);
    }

    @Says(in = "I", words = "(an OPTION, numbered from 0; up to 4)")
    static void fourOptions() {
        String options = times(4, "option o@;");
        SplicedLoom x = good(P + options + N);
        Edges.is(x, 4, "about", 3);
        for (int i = 0; i < 4; i++) {
            Edges.is(x, 100 + i, "named", Bench.name("o" + (char) ('a' + i)));
        }
        fault(5, P + options + "^option z");
        Edges.is(good(P + N), 0, "about", 3);
    }

    // ---- plug

    @Says(in = "I", words = "plug NAME on NODE holes WHOLE gauge WHOLE to WHOLE [WHEN]")
    static void plugLine() {
        String[] tokens = {"plug", "q", "on", "r", "holes", "5", "gauge", "1", "to", "9", "with", "x"};
        StringBuilder line = new StringBuilder(O);
        for (int i = 0; i < tokens.length; i++) {
            line.append(tokens[i]).append(' ');
            boolean whole = i == 9 || i == 11;
            fault(whole ? 6 : 1, line.toString());
            fault(1, line + (whole ? "^5" : i == 4 || i == 6 || i == 8 ? "^r" : "^5"));
            fault(1, line + (whole ? ";" : "^;"));
            fault(1, line + "^, ");
        }
        fault(1, O + "plug q on r holes 5 gauge 1 to 9 with x ^without x");
        fault(1, O + "plug q on r holes 5 gauge 1 to 9 ^x");
        good(O + "plug q on r holes 5 gauge 1 to 9;" + N);
        good(O + "plug q on r holes 5 gauge 1 to 9 without x;" + N);
    }

    @Says(in = "I", words = "(a PLUG; CAVITIES 0 .. holes - 1,")
    static void cavitiesOfAPlug() {
        String plug = R + "plug p on r holes 3 gauge 1 to 9;net n power gauge 1 of p ";
        SplicedLoom x = good(plug + "0,p 2");
        Edges.is(x, 0, "pin", 0, 0, 1);
        Edges.is(x, 2, "pin", 0, 1, 1);
        fault(4, plug + "0,p ^3");
        fault(4, plug + "^3,p 0");
        fault(4, plug + "0,p ^999");
        String single = R + "plug p on r holes 1 gauge 1 to 9;plug q on r holes 1 gauge 1 to 9;net n power gauge 1 of p 0,q ";
        good(single + "0");
        fault(4, single + "^1");
    }

    @Says(in = "I", words = "holes 1 .. 12;")
    static void holesOfOneToTwelve() {
        SplicedLoom x = good(P + "plug q on r holes 1 gauge 1 to 9;net n power gauge 1 of q 0,p 11");
        Edges.is(x, 12, "plug", 0, 1);
        Edges.is(x, 1, "plug", 1, 1);
        fault(4, P + "plug q on r holes ^0 gauge 1 to 9");
        fault(4, P + "plug q on r holes ^13 gauge 1 to 9");
        fault(4, P + "net n power gauge 1 of p ^12,p 0");
    }

    @Says(in = "I", words = "GAUGES from, to that go into them, 1 .. 9,")
    static void gaugesOfAPlug() {
        SplicedLoom x = good(P + N);
        Edges.is(x, 1, "plug", 0, 2);
        Edges.is(x, 9, "plug", 0, 3);
        fault(4, R + "plug p on r holes 1 gauge ^0 to 9");
        fault(4, R + "plug p on r holes 1 gauge ^10 to 9");
        fault(4, R + "plug p on r holes 1 gauge 1 to ^10");
        fault(4, R + "plug p on r holes 1 gauge 9 to ^10");
        fault(4, R + "plug p on r holes 1 gauge 1 to ^0");
    }

    @Says(in = "I", words = "the second no less than the first;")
    static void secondGaugeNoLess() {
        for (int gauge = 1; gauge <= 9; gauge++) {
            String plug = R + "plug p on r holes 2 gauge " + gauge + " to ";
            SplicedLoom x = good(plug + gauge + ";" + N);
            Edges.is(x, gauge, "plug", 0, 2);
            Edges.is(x, gauge, "plug", 0, 3);
            fault(4, plug + "^" + (gauge - 1));
        }
    }

    @Says(in = "I", words = "numbered from 0; up to 8)")
    static void eightPlugs() {
        String plugs = times(8, "plug p@ on r holes 2 gauge 1 to 9;");
        SplicedLoom x = good(R + plugs + "net n power gauge 1 of pa 0,ph 1");
        Edges.is(x, 8, "about", 4);
        Edges.is(x, 200, "named", Bench.name("pa"));
        Edges.is(x, 207, "named", Bench.name("ph"));
        Edges.is(x, 7, "pin", 0, 1, 0);
        fault(5, R + plugs + "^plug z on r holes 2 gauge 1 to 9");
    }

    // ---- net

    @Says(in = "I", words = "net NAME KIND gauge WHOLE [WHEN] of PIN , PIN {, PIN}")
    static void netLine() {
        String[] tokens =
            {"net", "n", "power", "gauge", "1", "with", "x", "of", "p", "0", ",", "p", "1", ",", "p", "2"};
        StringBuilder line = new StringBuilder(O);
        for (int i = 0; i < tokens.length; i++) {
            line.append(tokens[i]).append(' ');
            boolean whole = i == 12 || i == 15;
            boolean beforeWhole = i == 3 || i == 8 || i == 11 || i == 14;
            if (!whole) {
                fault(1, line.toString());
            }
            fault(1, line + (beforeWhole ? "^r" : "^5"));
            fault(1, line + (whole ? ";" : "^;"));
            if (i != 9 && i != 12 && i != 15) {
                fault(1, line + "^,");
            }
        }
        fault(1, O + "net n power gauge 1 with x ^without x of p 0,p 1");
        fault(1, O + "net n power gauge 1 of p 0,p 1 ^with x");
        fault(1, O + "net n power gauge 1 ^p 0,p 1");
        fault(1, O + "net n power gauge 1 of p 0 ^p 1");
        fault(1, O + "net n power gauge 1 of p 0,^0");
        good(O + "net n power gauge 1 with x of p 0,p 1,p 2");
        good(O + "net n power gauge 1 of p 0,p 1");
    }

    @Says(in = "I", words = "(a NET; KIND: power, signal, or ground;")
    static void threeKinds() {
        SplicedLoom x = good(P + "net a power gauge 1 of p 0,p 1;net b signal gauge 1 of p 0,p 1;"
            + "net c ground gauge 1 of p 0,p 1");
        for (int kind = 0; kind < 3; kind++) {
            Edges.is(x, kind, "net", kind, 0);
        }
        for (String other : new String[] {"powe", "signals", "earth", "gauge", "of", "n", "1", ","}) {
            fault(1, P + "net n ^" + other + " gauge 1 of p 0,p 1");
        }
    }

    @Says(in = "I", words = "GAUGE 1 .. 9;")
    static void gaugeOfANet() {
        SplicedLoom x = good(P + "net a power gauge 1 of p 0,p 1;net b power gauge 9 of p 0,p 1");
        Edges.is(x, 1, "net", 0, 1);
        Edges.is(x, 9, "net", 1, 1);
        fault(4, P + "net n power gauge ^0 of p 0,p 1");
        fault(4, P + "net n power gauge ^10 of p 0,p 1");
        fault(1, P + "net n power gauge ^1000 of p 0,p 1");
        // a GAUGE that goes into no PLUG of the NET is no FAULT
        good(R + "plug p on r holes 2 gauge 3 to 4;net n power gauge 9 of p 0,p 1");
    }

    @Says(in = "I", words = "PIN: PLUG WHOLE, a CAVITY of it;")
    static void pinIsACavityOfItsPlug() {
        String plugs = R + "plug p on r holes 2 gauge 1 to 9;plug q on r holes 5 gauge 1 to 9;net n power gauge 1 of ";
        SplicedLoom x = good(plugs + "q 4,p 1");
        Edges.is(x, 1, "pin", 0, 0, 0);
        Edges.is(x, 4, "pin", 0, 0, 1);
        fault(4, plugs + "q 4,p ^2");
        fault(4, plugs + "p 1,q ^5");
    }

    @Says(in = "I", words = "2 to 5 PINS,")
    static void twoToFivePins() {
        String net = P + "net n power gauge 1 of p 0";
        fault(1, net);
        fault(1, net + "^;");
        Edges.is(good(net + ",p 1"), 2, "net", 0, 2);
        Edges.is(good(net + ",p 1,p 2"), 3, "net", 0, 2);
        Edges.is(good(net + ",p 1,p 2,p 3"), 4, "net", 0, 2);
        SplicedLoom x = good(net + ",p 1,p 2,p 3,p 4");
        Edges.is(x, 5, "net", 0, 2);
        Edges.is(x, 4, "pin", 0, 4, 1);
        fault(1, net + ",p 1,p 2,p 3,p 4^,p 5");
        fault(1, net + ",p 1,p 2,p 3,p 4^,");
    }

    @Says(in = "I", words = "unlike; numbered from 0; up to 10)")
    static void pinsAreUnlike() {
        fault(3, P + "net n power gauge 1 of p 0,p ^0");
        fault(3, P + "net n power gauge 1 of p 0,p 1,p 2,p 3,p ^0");
        String two = P + "plug q on r holes 12 gauge 1 to 9;";
        good(two + "net n power gauge 1 of p 3,q 3");
        fault(3, two + "net n power gauge 1 of p 3,q 3,p ^3");
        // of two NETS they may be alike
        good(P + N + ";net m power gauge 1 of p 0,p 1");
    }

    @Says(in = "I", words = "unlike; numbered from 0; up to 10)")
    static void tenNets() {
        String nets = times(10, "net n@ power gauge 1 of p 0,p 1;");
        SplicedLoom x = good(P + nets.substring(0, nets.length() - 1));
        Edges.is(x, 10, "about", 5);
        Edges.is(x, 300, "named", Bench.name("na"));
        Edges.is(x, 309, "named", Bench.name("nj"));
        fault(5, P + nets + "^net z power gauge 1 of p 0,p 1");
    }

    // ---- build

    @Says(in = "I", words = "build WHOLE {OPTION}")
    static void buildLine() {
        fault(1, O + "build");
        fault(1, O + "build ^;");
        fault(1, O + "build ^x");
        fault(1, O + "build ^,");
        fault(1, O + "build 1 ^1");
        fault(1, O + "build 1 ^,");
        fault(1, O + "build 1 x^,x");
        fault(1, O + "build 1 x ^2");
        fault(1, O + "build 1 ^with x");
        fault(1, O + "build 1 ^of x");
        good(O + N + ";build 1;build 1 x");
    }

    @Says(in = "I", words = "(1 .. 99 harnesses with just these OPTIONS,")
    static void buildOfOneTo99() {
        SplicedLoom x = good(O + "option y;" + N + ";build 1;build 99 y;build 2 y x");
        Edges.is(x, 1, "build", 0, 1);
        Edges.is(x, 99, "build", 1, 1);
        Edges.is(x, 0, "build", 0, 0);
        Edges.is(x, 2, "build", 1, 0);
        Edges.is(x, 3, "build", 2, 0);
        fault(4, O + "build ^0");
        fault(4, O + "build ^0 x");
        fault(4, O + "build ^100");
        fault(4, O + "build ^999");
    }

    @Says(in = "I", words = "unlike ones;")
    static void optionsOfABuildAreUnlike() {
        String four = P + "option w;option x;option y;option z;";
        SplicedLoom x = good(four + N + ";build 1 z y x w");
        Edges.is(x, 15, "build", 0, 0);
        fault(3, four + "build 1 x ^x");
        fault(3, four + "build 1 w x y z ^w");
        fault(3, four + "build 1 w x y z ^z");
    }

    @Says(in = "I", words = "a BUILD, numbered from 0;")
    static void buildsAreNumbered() {
        SplicedLoom x = good(O + N + ";build 7 x;build 8");
        Edges.is(x, 7, "build", 0, 1);
        Edges.is(x, 8, "build", 1, 1);
    }

    @Says(in = "I", words = "no two with the same; up to 5)")
    static void noTwoBuildsAlike() {
        fault(7, O + "build 1;build 2^;");
        fault(7, O + "build 1 x;build 2;build 3 x^;");
        fault(7, O + "option y;build 1 x y;build 1 y x^;");
        good(O + "option y;" + N + ";build 1 x;build 1 y;build 1;build 1 x y");
    }

    @Says(in = "I", words = "no two with the same; up to 5)")
    static void fiveBuilds() {
        String five = P + "option w;option x;option y;" + N + ";build 1;build 1 w;build 1 x;build 1 y;build 1 w x";
        SplicedLoom x = good(five);
        Edges.is(x, 5, "about", 6);
        Edges.is(x, 3, "build", 4, 0);
        fault(5, five + ";^build 1 w y");
        fault(5, five + ";^build 1");
    }

    // ---- when, names

    @Says(in = "I", words = "WHEN: with OPTION, or without OPTION.")
    static void whenOfPlugsAndNets() {
        SplicedLoom x = good(P + "option w;option x;plug q on r holes 2 gauge 1 to 9 with x;"
            + "plug s on r holes 2 gauge 1 to 9 without w;net n power gauge 1 with w of p 0,p 1;"
            + "net m power gauge 1 without x of p 0,p 1");
        Edges.is(x, 1, "plug", 1, 4);
        Edges.is(x, 1, "plug", 1, 5);
        Edges.is(x, 0, "plug", 2, 4);
        Edges.is(x, 0, "plug", 2, 5);
        Edges.is(x, 0, "net", 0, 3);
        Edges.is(x, 1, "net", 0, 4);
        Edges.is(x, 1, "net", 1, 3);
        Edges.is(x, 0, "net", 1, 4);
        fault(2, P + "plug q on r holes 2 gauge 1 to 9 with ^p");
        fault(2, P + "plug q on r holes 2 gauge 1 to 9 without ^x");
        fault(1, O + "plug q on r holes 2 gauge 1 to 9 with ^without x");
        fault(1, O + "plug q on r holes 2 gauge 1 to 9 with ^5");
        fault(1, O + "net n power gauge 1 without ^of p 0,p 1");
    }

    @Says(in = "I", words = "NAMES are WORDS but board, node, option, plug, net, build, off, with, without, of;")
    static void reservedWordsAreNoNames() {
        for (String word : RESERVED) {
            fault(1, B + "node ^" + word);
            fault(1, R + "node ^" + word + " off r up long 1");
            fault(1, R + "node a off ^" + word + " up long 1");
            fault(1, R + "option ^" + word);
            fault(1, R + "plug ^" + word + " on r");
            fault(1, R + "plug p on ^" + word + " holes 1");
            fault(1, O + "plug q on r holes 1 gauge 1 to 9 with ^" + word);
            fault(1, O + "net ^" + word + " power gauge 1 of p 0,p 1");
            fault(1, O + "net n power gauge 1 with ^" + word);
            fault(1, O + "net n power gauge 1 of ^" + word + " 0");
            fault(1, O + "net n power gauge 1 of p 0,^" + word + " 1");
            fault(1, O + "build 1 ^" + word);
        }
    }

    @Says(in = "I", words = "NAMES are WORDS but board, node, option, plug, net, build, off, with, without, of;")
    static void otherWordsAreNames() {
        for (String word : WORDS) {
            SplicedLoom x = good(B + "node " + word + ";node a off " + word + " up long 1;plug p on " + word
                + " holes 2 gauge 1 to 9;" + N);
            Edges.is(x, 0, "named", Bench.name(word));
            good(R + "option " + word + ";plug p on r holes 2 gauge 1 to 9 with " + word + ";" + N + ";build 1 " + word);
            good(R + "plug " + word + " on r holes 2 gauge 1 to 9;net n power gauge 1 of " + word + " 0," + word + " 1");
            good(P + "net " + word + " power gauge 1 of p 0,p 1");
        }
    }

    @Says(in = "I", words = "each told once (of all of them together),")
    static void eachNameOnce() {
        String all = O + N + ";";
        for (String name : new String[] {"r", "p", "x", "n"}) {
            fault(3, all + "node ^" + name + " off r up long 1");
            fault(3, all + "option ^" + name);
            fault(3, all + "plug ^" + name + " on r holes 1 gauge 1 to 9");
            fault(3, all + "net ^" + name + " power gauge 1 of p 0,p 1");
        }
        good(all + "node rr off r up long 1;option xx;plug pp on r holes 1 gauge 1 to 9;net nn power gauge 1 of p 0,p 1");
    }

    /** As many of all as there may be, but of NETS: their NAMES a .. z, and na, nb and so on of NETS. */
    private static String everything(int nets) {
        StringBuilder text = new StringBuilder("board slack0joint0;node a;");
        for (char name = 'b'; name <= 'n'; name++) {
            text.append("node ").append(name).append(" off a up long1;");
        }
        for (char name = 'o'; name <= 'r'; name++) {
            text.append("option ").append(name).append(';');
        }
        for (char name = 's'; name <= 'z'; name++) {
            text.append("plug ").append(name).append(" on n holes2gauge1to9;");
        }
        return text + times(nets, "net n@ power gauge1of s0,z1;") + "build1;build2o;build3p;build4q;build5r";
    }

    @Says(in = "I", words = "each told once (of all of them together),")
    static void asManyOfAllAsThereMayBe() {
        SplicedLoom x = good(everything(10));
        int[] many = {0, 0, 14, 4, 8, 10, 5};
        for (int what = 0; what < 7; what++) {
            Edges.is(x, many[what], "about", what);
        }
        for (char name = 'a'; name <= 'z'; name++) {
            int want = name < 'o' ? name - 'a' : name < 's' ? 100 + name - 'o' : 200 + name - 's';
            Edges.is(x, want, "named", name);
        }
        for (char name = 'a'; name <= 'j'; name++) {
            Edges.is(x, 300 + name - 'a', "named", Bench.name("n" + name));
        }
        for (String line : new String[] {"node a", "option a", "plug a", "net a", "build 6 o p"}) {
            fault(5, everything(10) + ";^" + line);
        }
    }

    @Says(in = "I", words = "each told once (of all of them together),")
    static void eachOfAllNamesOnce() {
        String nine = everything(9);
        for (char name = 'a'; name <= 'z'; name++) {
            fault(3, nine + ";net ^" + name + " power gauge 1");
        }
        for (char name = 'a'; name <= 'i'; name++) {
            fault(3, nine + ";net ^n" + name + " power gauge 1");
        }
        good(nine + ";net nj power gauge1of s0,s1");
    }

    @Says(in = "I", words = "ahead of its use.")
    static void namesAreToldAheadOfTheirUse() {
        fault(2, R + "node a off ^b up long 1;node b off r up long 1");
        fault(2, B + "plug p on ^r holes 1 gauge 1 to 9;node r");
        fault(2, P + "plug q on r holes 1 gauge 1 to 9 with ^x;option x");
        fault(2, P + "net n power gauge 1 with ^x of p 0,p 1;option x");
        fault(2, P + "net n power gauge 1 of p 0,^q 0;plug q on r holes 1 gauge 1 to 9");
        fault(2, P + "build 1 ^x;option x");
        // a NODE's NAME is told with its LINE: it is not off itself
        fault(2, R + "node a off ^a up long 1");
    }

    // ---- faults

    @Says(in = "I", words = "FAULTS, the first that is met from the left,")
    static void leftmostFault() {
        fault(6, "^node r;#");
        fault(4, "board slack ^100 joint #");
        fault(3, R + "node ^r off q sideways 0");
        fault(2, R + "node a off ^b sideways 0");
        fault(1, R + "node a off r ^sideways long 0");
        fault(4, R + "node a off r up long ^0 #");
        fault(4, R + "plug p on r holes ^0 gauge 0 to 0");
        fault(4, R + "plug p on r holes 1 gauge ^0 to 10");
        fault(2, R + "plug p on ^q holes 99 gauge 1 to 9");
        fault(3, P + "plug ^p on q holes 99 gauge 1 to 9");
        fault(1, P + "net n ^powr gauge 0 of q 0");
        fault(2, P + "net n power gauge 1 with ^x of q 0");
        fault(4, P + "net n power gauge 1 of p ^12,p 12");
        fault(3, P + "net n power gauge 1 of p 0,p ^0,p 99");
        fault(2, O + "build 1 ^y x x");
        fault(3, O + "build 1 x ^x y");
        fault(7, O + "build 1;build 2^;build 0");
        fault(1, O + "build 1;build 2 ^#;");
        fault(3, R + "^board slack 100");
        fault(1, B + "node ^abcdefgh #");
    }

    @Says(in = "I", words = "of one place the least number:")
    static void leastNumberOfOnePlace() {
        // at the end: a LINE is begun or wanted, and there is no NET
        fault(1, "");
        fault(1, B);
        fault(1, R + "node");
        fault(1, P + "net n power gauge 1 of p 0");
        fault(1, O + "build 1;build");
        // at the first WORD: it begins no LINE, and there is no board
        fault(1, "^nodes r");
        // a sixth PIN, at its , and not for its PLUG
        fault(1, P + "net n power gauge 1 of p 0,p 1,p 2,p 3,p 4^,q 0");
    }

    @Says(in = "I", words = "1 FORM: the first byte that begins no TOKEN")
    static void byteThatBeginsNoToken() {
        for (int sign = 0; sign < 256; sign++) {
            boolean begins = sign == ' ' || sign == ';' || sign == ',' || sign >= '0' && sign <= '9'
                || sign >= 'a' && sign <= 'z';
            if (!begins) {
                Edges.faultAt(1, 0, "" + (char) sign);
                Edges.faultAt(1, 1, " " + (char) sign + (char) sign);
                Edges.faultAt(1, R.length(), R + (char) sign);
                Edges.faultAt(1, R.length() + 6, R + "node x" + (char) sign);
                Edges.faultAt(1, 13, "board slack 1" + (char) sign);
            }
        }
    }

    @Says(in = "I", words = "(of more letters, digits that stand together: the first of them),")
    static void tooManyTogether() {
        fault(1, "^abcdefgh");
        fault(1, B + "^optionx y");
        fault(1, B + "  ^nodenode r");
        fault(1, B + "node ^aaaaaaaa;");
        fault(1, "board slack ^1000");
        fault(1, "board slack ^0000000 joint 0");
        fault(1, "board slack 0 joint ^00000");
        // seven and three are none too many, also where others stand at them
        fault(1, "board slack 099joint000^abcdefg");
        fault(1, "board slack 099joint000^abcdefg000");
        fault(1, B + "node abcdefg^000");
    }

    @Says(in = "I", words = "or TOKEN with which no HARNESS goes on (the end: its place;")
    static void theEndWhereNoHarnessEnds() {
        fault(1, "board slack 0 joint ");
        fault(1, "board slack 0 joint    ");
        fault(1, R + "node a off r up long");
        fault(1, P + "net n power gauge 1 of p 0,");
        fault(1, P + N + ";");
        fault(1, P + N + ";  ");
        fault(1, P + N + ",");
        SplicedLoom x = new SplicedLoom();
        Bench.feedAll(x, B + "node");
        // the first n bytes alone: the end is at n
        Bench.due("harness(20)", x.harness(20), -1);
        Bench.due("fault()", x.fault(), 1);
        Bench.due("where()", x.where(), 20);
    }

    @Says(in = "I", words = "off at the first NODE,")
    static void offAtTheFirstNode() {
        fault(1, B + "node r ^off");
        fault(1, B + "node r ^off r up long 5");
        fault(1, B + "option x;node r ^off x up long 0");
    }

    @Says(in = "I", words = "no off at another one,")
    static void noOffAtAnotherNode() {
        fault(1, R + "node a");
        fault(1, R + "node a^;");
        fault(1, R + "node a ^r up long 5");
        fault(1, R + "node a off r up long 1;node b ^of r up long 1");
    }

    @Says(in = "I", words = "the , ahead of a sixth PIN, too).")
    static void commaAheadOfASixthPin() {
        String five = P + "net n power gauge 1 of p 0,p 1,p 2,p 3,p 4";
        good(five);
        fault(1, five + "^,p 5");
        fault(1, five + " ^, p 0");
        fault(1, five + "^,q 99;");
    }

    @Says(in = "I", words = "2 a NAME that isn't told, or of something else than must stand there; at it.")
    static void nameThatIsNotTold() {
        fault(2, R + "node a off ^s up long 1");
        fault(2, B + "plug p on ^r holes 1");
        fault(2, P + "plug q on r holes 1 gauge 1 to 9 with ^up");
        fault(2, P + "net n power gauge 1 without ^x of p 0,p 1");
        fault(2, R + "net n power gauge 1 of ^p 0");
        fault(2, P + "net n power gauge 1 of p 0,^pp 1");
        fault(2, O + "build 1 ^xx");
        fault(2, P + "build 1 ^x");
        // a WORD of the LINE where a NAME must stand that isn't told
        fault(2, R + "node a off ^up long 1");
        fault(2, R + "plug p on ^holes 1");
    }

    @Says(in = "I", words = "2 a NAME that isn't told, or of something else than must stand there; at it.")
    static void nameOfSomethingElse() {
        String all = O + N + ";";
        for (String other : new String[] {"x", "p", "n"}) {
            fault(2, all + "node a off ^" + other + " up long 1");
            fault(2, all + "plug q on ^" + other + " holes 1");
        }
        for (String other : new String[] {"r", "p", "n"}) {
            fault(2, all + "plug q on r holes 1 gauge 1 to 9 with ^" + other);
            fault(2, all + "net m power gauge 1 without ^" + other);
            fault(2, all + "build 1 ^" + other);
            fault(2, all + "build 1 x ^" + other);
        }
        for (String other : new String[] {"r", "x", "n", "m"}) {
            fault(2, all + "net m power gauge 1 of ^" + other + " 0");
            fault(2, all + "net m power gauge 1 of p 0,^" + other + " 0");
        }
    }

    @Says(in = "I", words = "3 AGAIN: a NAME told again,")
    static void nameToldAgain() {
        fault(3, R + "node ^r off r up long 1");
        fault(3, O + "option ^x");
        fault(3, P + "plug ^p on r holes 1");
        fault(3, P + N + ";net ^n power gauge 1");
        fault(3, P + "option ^p");
        fault(3, B + "option r;node ^r");
    }

    @Says(in = "I", words = "a PIN again (at its WHOLE),")
    static void pinToldAgain() {
        fault(3, P + "net n power gauge 1 of p 11,p ^11");
        fault(3, P + "net n power gauge 1 of p 1,p ^01");
        fault(3, P + "net n power gauge 1 of p 1,p 2,p 3,p 4,p ^001");
    }

    @Says(in = "I", words = "an OPTION again in a BUILD; at it;")
    static void optionToldAgain() {
        fault(3, O + "build 1 x ^x");
        fault(3, O + "option y;build 1 y x ^y");
        good(O + "option y;" + N + ";build 1 x;build 1 y x");
    }

    @Says(in = "I", words = "a second board: at that WORD.")
    static void secondBoard() {
        fault(3, B + "^board slack 0 joint 0");
        fault(3, B + "^board");
        fault(3, P + N + "; ^board slack 100 joint 100");
    }

    @Says(in = "I", words = "4 a WHOLE out of bounds; at it.")
    static void wholeOutOfBounds() {
        fault(4, "board slack ^100");
        fault(4, "board slack 1 joint ^100");
        fault(4, R + "node a off r up long ^00");
        fault(4, R + "plug p on r holes ^13");
        fault(4, R + "plug p on r holes ^0");
        fault(4, R + "plug p on r holes 1 gauge ^10");
        fault(4, R + "plug p on r holes 1 gauge 2 to ^1");
        fault(4, P + "net n power gauge ^0");
        fault(4, P + "net n power gauge 1 of p ^12");
        fault(4, P + "build ^100");
        fault(4, P + "build ^0");
    }

    @Says(in = "I", words = "5 MANY: a LINE more of its sort than there is room for, at its first WORD.")
    static void oneLineMore() {
        fault(5, R + times(13, "node n@ off r up long 1;") + "^node");
        fault(5, R + times(13, "node n@ off r up long 1;") + "^node r");
        fault(5, R + times(4, "option o@;") + "^option r");
        fault(5, R + times(8, "plug p@ on r holes 1 gauge 1 to 9;") + "^plug 5");
        fault(5, P + times(10, "net n@ power gauge 1 of p 0,p 1;") + "^net #");
        fault(5, P + "option w;option x;option y;build 1;build 1 w;build 1 x;build 1 y;build 1 w x;^build");
    }

    @Says(in = "I", words = "6 LACKS: any LINE ahead of the board; at its WORD;")
    static void lineAheadOfTheBoard() {
        for (String line : new String[] {"node", "option", "plug", "net", "build"}) {
            fault(6, "^" + line);
            fault(6, "  ^" + line + " x;board slack 0 joint 0");
        }
    }

    @Says(in = "I", words = "at the end: no NET.")
    static void noNet() {
        fault(6, "board slack 0 joint 0");
        fault(6, "board slack 0 joint 0   ");
        fault(6, B + "node r");
        fault(6, B + "option x");
        fault(6, R + "plug p on r holes 12 gauge 1 to 9");
        fault(6, O + "build 1;build 2 x");
    }

    @Says(in = "I", words = "7 SAME: a BUILD with the OPTIONS of another one; at its end (the place of ; or of the end;")
    static void sameBuildAtItsEnd() {
        fault(7, O + N + ";build 1;build 1^;build 2 x");
        fault(7, O + N + ";build 1 x;build 1 x   ^;");
        fault(7, O + N + ";build 1;build 1");
        fault(7, O + N + ";build 1 x;build 1 x   ");
        fault(7, O + N + ";build 1;build 1 x;build 1");
    }

    @Says(in = "I", words = "at the end of the text it is asked ahead of 6).")
    static void sameIsAskedAheadOfLacks() {
        fault(7, O + "build 1;build 1");
        fault(7, O + "build 1 x;build 1 x  ");
        fault(6, O + "build 1;build 1 x");
    }
}
