/** The FAULTS of the text (promises 3 to 5), one after another. */
public final class FaultsTest {
    private static final String B = "board slack 0 joint 0;";
    private static final String R = B + "node r;";
    private static final String P = R + "plug p on r holes 12 gauge 2 to 4;";
    private static final String O = P + "option x;";
    private static final String N = "net n power gauge 1 of p 0,p 1";

    public static void main(String[] args) {
        tokens();
        ends();
        form();
        untold();
        again();
        bounds();
        many();
        lacks();
        same();
        leftmost();
        goodOnes();
        Bench.close("FaultsTest");
    }

    /** A fault at the first place of the part that stands behind the text. */
    private static void at(String text, String part, int fault) {
        Bench.faulty(text + part, fault, text.length());
    }

    private static void tokens() {
        at(B + "node ", "abcdefgh", 1);
        at(B + "node ", "abcdefghijklmnopqrstuvwxyz", 1);
        at("board slack ", "0000 joint 0", 1);
        at("board slack ", "1234567890123456789012 joint 0", 1);
        at(B + "node ", "R", 1);
        at(B + "node ", "\t", 1);
        at(B + "node ", "\n r", 1);
        at(B + "node ", "\u0000", 1);
        at(B + "node ", "\u00e9", 1);
        at(B + "node r", "_", 1);
        at(R, "# node", 1);
        at(B + "node ", "{", 1);
        at(B + "node ", "`", 1);
        at("board slack ", "/", 1);
        at("board slack ", ":", 1);
        at("board slack ", "-1", 1);
    }

    private static void ends() {
        String whole = O + "plug q on r holes 3 gauge 1 to 9 without x;" + N.replace(" of", " with x of") + ";build 3 x";
        for (int size = 1; size < whole.length(); size++) {
            String part = whole.substring(0, size);
            // cut where no word is: the fault is at the end, that the line goes on or that there is no net
            if (part.endsWith(" ")) {
                SplicedLoom x = new SplicedLoom();
                boolean good = Bench.tell(x, part) == 1;
                Bench.due("where() of \"" + part + "\"", x.where(), good ? -1 : size);
                Bench.due("fault() of \"" + part + "\"", x.fault(), good ? 0 : lineIsWhole(part) ? 6 : 1);
            }
        }
        Bench.faulty("   ", 1, 3);
        Bench.faulty(B + "   ", 1, B.length() + 3);
        Bench.faulty("board slack 0 joint 0  ", 6, 23);
    }

    private static boolean lineIsWhole(String part) {
        return part.endsWith("gauge 1 to 9 ");
    }

    private static void form() {
        at("", "; board slack 0 joint 0", 1);
        at("", "slack", 1);
        at("", "5", 1);
        at("", "with x", 1);
        at("board ", "joint 0", 1);
        at("board ", "7", 1);
        at("board slack ", "joint", 1);
        at("board slack 0 ", "slack 0", 1);
        at("board slack 0 joint 0 ", "7", 1);
        at("board slack 0 joint 0 ", "node r", 1);
        at(B, ";", 1);
        at(R, ", node a", 1);
        for (String reserved : "board node option plug net build off with without of".split(" ")) {
            at(B + "node ", reserved, 1);
            at(R + "node a off ", reserved, 1);
            at(B + "option ", reserved, 1);
            at(R + "plug ", reserved, 1);
            at(R + "plug p on ", reserved, 1);
            at(P + "net ", reserved, 1);
            at(P + "net n power gauge 1 of ", reserved, 1);
            at(O + "plug q on r holes 1 gauge 1 to 1 with ", reserved, 1);
            at(O + "build 1 x ", reserved, 1);
        }
        at(B + "node ", "7", 1);
        at(B + "node r ", "off r up long 1", 1);
        at(B + "node r ", "r", 1);
        at(R + "node a", ";", 1);
        at(R + "node a ", "of r", 1);
        at(R + "node a off r ", "upp long 1", 1);
        at(R + "node a off r ", "7", 1);
        at(R + "node a off r up ", "7", 1);
        at(R + "node a off r up long ", "long", 1);
        at(R + "node a off r up long 5 ", "up", 1);
        at(B + "option x ", "y", 1);
        at(R + "plug p ", "off r", 1);
        at(R + "plug p on r ", "gauge", 1);
        at(R + "plug p on r holes ", ";", 1);
        at(R + "plug p on r holes 1 ", "to", 1);
        at(R + "plug p on r holes 1 gauge 1 ", "2", 1);
        at(R + "plug p on r holes 1 gauge 1 to ", "x", 1);
        at(R + "plug p on r holes 1 gauge 1 to 2 ", "of", 1);
        at(O + "plug q on r holes 1 gauge 1 to 2 with x ", "with", 1);
        at(P + "net n ", "gauge", 1);
        at(P + "net n ", "powers gauge 1", 1);
        at(P + "net n power ", "1", 1);
        at(P + "net n power gauge ", "of", 1);
        at(P + "net n power gauge 1 ", "p", 1);
        at(O + "net n power gauge 1 without x ", "with x", 1);
        at(P + "net n power gauge 1 of ", "0", 1);
        at(P + "net n power gauge 1 of p ", "p", 1);
        at(P + "net n power gauge 1 of p 0 ", "p 1", 1);
        at(P + "net n power gauge 1 of p 0", ";", 1);
        at(P + "net n power gauge 1 of p 0", "", 1);
        at(P + "net n power gauge 1 of p 0,p 1,", ";", 1);
        at(P + "net n power gauge 1 of p 0,p 1 ", "p 2", 1);
        at(P + "net n power gauge 1 of p 0,p 1 ", "with x", 1);
        at(P + "net n power gauge 1 of p 0,p 1,p 2,p 3,p 4", ", p 5", 1);
        at(O + "build ", "x", 1);
        at(O + "build 5 ", "5", 1);
        at(O + "build 5 x", ", x", 1);
    }

    private static void untold() {
        at(R + "node a off ", "a up long 1", 2);
        at(R + "node a off ", "b up long 1", 2);
        at(O + "node a off ", "p up long 1", 2);
        at(O + "node a off ", "x up long 1", 2);
        at(R + "plug p on ", "p holes 1", 2);
        at(O + "plug q on ", "x holes 1", 2);
        at(O + "plug q on r holes 1 gauge 1 to 1 with ", "r", 2);
        at(O + "plug q on r holes 1 gauge 1 to 1 with ", "y", 2);
        at(O + "net n power gauge 1 without ", "n of", 2);
        at(O + "net n power gauge 1 without ", "p of", 2);
        at(O + "net n power gauge 1 of ", "n 0", 2);
        at(O + "net n power gauge 1 of ", "r 0", 2);
        at(O + "net n power gauge 1 of p 0,", "q 0", 2);
        at(O + "build 5 ", "p", 2);
        at(O + N + ";build 5 ", "n", 2);
        at(O + "build 5 x ", "y", 2);
        at(B + "option x;node r;plug p on ", "x holes", 2);
    }

    private static void again() {
        at(R + "node ", "r off r up long 1", 3);
        at(R + "option ", "r", 3);
        at(O + "plug ", "x on r", 3);
        at(O + "net ", "p power", 3);
        at(O + N + ";net ", "n power", 3);
        at(O + N + ";option ", "n", 3);
        at(O + "option ", "x", 3);
        at(O + "net n power gauge 1 of p 3,p ", "3", 3);
        at(O + "net n power gauge 1 of p 3,p 2,p 1,p 0,p ", "003", 3);
        at(O + "build 5 x ", "x", 3);
        at(O + "option y;build 5 x y ", "x", 3);
        at(B, B, 3);
        at(O + N + ";", "board", 3);
    }

    private static void bounds() {
        at("board slack ", "100 joint 0", 4);
        at("board slack 99 joint ", "100", 4);
        at(R + "node a off r up long ", "0", 4);
        at(R + "node a off r up long ", "000", 4);
        at(R + "plug p on r holes ", "0 gauge", 4);
        at(R + "plug p on r holes ", "13 gauge", 4);
        at(R + "plug p on r holes 1 gauge ", "0 to 1", 4);
        at(R + "plug p on r holes 1 gauge ", "10 to 1", 4);
        at(R + "plug p on r holes 1 gauge 1 to ", "10", 4);
        at(R + "plug p on r holes 1 gauge 1 to ", "0", 4);
        at(R + "plug p on r holes 1 gauge 5 to ", "4", 4);
        at(P + "net n power gauge ", "0", 4);
        at(P + "net n power gauge ", "10", 4);
        at(P + "net n power gauge 1 of p ", "12", 4);
        at(P + "net n power gauge 1 of p 11,p ", "999", 4);
        at(P + "build ", "0", 4);
        at(P + "build ", "100", 4);
    }

    private static String times(int many, String line) {
        StringBuilder all = new StringBuilder();
        for (int i = 0; i < many; i++) {
            all.append(line.replace("@", String.valueOf((char) ('a' + i))));
        }
        return all.toString();
    }

    private static void many() {
        String nodes = times(13, "node k@ off r up long 1;");
        at(R + nodes, "node kz off r up long 1", 5);
        at(R + nodes, "node", 5);
        at(R + nodes, "node board", 5);
        String options = times(4, "option o@;");
        at(R + options, "option oz", 5);
        String plugs = times(8, "plug p@ on r holes 9 gauge 1 to 9;");
        at(R + plugs, "plug pz on r", 5);
        String nets = times(10, "net n@ power gauge 1 of p 0,p 1;");
        at(P + nets, "net nz power", 5);
        String builds = "build 1;build 1 oa;build 1 ob;build 1 oc;build 1 oc oa;";
        at(R + options + builds, "build 1 od", 5);
        Bench.due("as many as there is room for", Bench.tell(new SplicedLoom(), R + options + builds + nodes
            + "plug p on r holes 9 gauge 1 to 9;" + nets + "plug q on r holes 1 gauge 1 to 1"), 10);
        Bench.due("eight plugs", Bench.tell(new SplicedLoom(), R + plugs + "net n power gauge 1 of pa 0,ph 1"), 1);
    }

    private static void lacks() {
        for (String line : "node option plug net build".split(" ")) {
            at("", line, 6);
            at("  ", line + " board", 6);
        }
        Bench.faulty("board slack 0 joint 0", 6, 21);
        Bench.faulty(P + "option x", 6, P.length() + 8);
        Bench.faulty(P + "option x   ", 6, P.length() + 11);
    }

    private static void same() {
        at(O + "build 1;build 2", ";", 7);
        at(O + "build 1;build 2   ", ";", 7);
        at(O + "build 1 x;build 2 x", "", 7);
        at(O + "build 1 x;build 2 x  ", "", 7);
        at(O + N + ";build 1 x;build 2 x", "", 7);
        at(O + "option y;build 1 x y;build 2;build 1 y x", "; build", 7);
        at(O + "build 1;build 2 ", ",", 1);
        at(O + "build 1;build 2 ", "#", 1);
        at(O + "build 1;build 2", ";;", 7);
    }

    /** Of more faults the first from the left. */
    private static void leftmost() {
        at(R + "node ", "r #", 3);
        at(R + "node a off ", "b UP", 2);
        at("", "node r;#", 6);
        at(R + "plug p on r holes ", "0 gauge 5 to 4", 4);
        at(R, "nod abcdefgh", 1);
    }

    private static void goodOnes() {
        Bench.due("no blanks but where words meet", Bench.tell(new SplicedLoom(),
            "board slack0joint0;node r;plug p on r holes12gauge1to9;net n power gauge1of p0,p1;build5"), 1);
        Bench.due("many blanks", Bench.tell(new SplicedLoom(),
            "  board  slack 00 joint 009 ;  node r ; plug p on r holes 12 gauge 1 to 9 ; net n power gauge 1 of "
            + " p 0 , p 01 ; build 5 "), 1);
        Bench.due("names that are words of lines", Bench.tell(new SplicedLoom(),
            "board slack 0 joint 0;node long;node up off long up long 5;option to;plug on on up holes 2 gauge 1 to 1 "
            + "with to;net signal signal gauge 1 without to of on 0,on 1;build 5 to"), 1);
        Bench.due("five pins, the same cavity number of two plugs", Bench.tell(new SplicedLoom(), P
            + "plug q on r holes 1 gauge 1 to 1;net n ground gauge 9 of p 0,q 0,p 1,p 2,p 3"), 1);
    }
}
