/** Promises 1 to 7. */
public final class HarnessTest {
    static final String SMALL = "board slack 7 joint 9;node r;node a off r up long 10;option x;option y;"
        + "plug p on r holes 2 gauge 1 to 9;plug q on a holes 2 gauge 1 to 9;"
        + "net n power gauge 1 of p 0,q 0;net m ground gauge 1 of p 1,q 1;net k ground gauge 1 of p 0,q 1;build 3";

    public static void main(String[] args) {
        newObject();
        newObjectRefusesAll();
        feed();
        bytesHighestFirst();
        harness();
        harnessStays();
        faultAndWhere();
        about();
        named();
        Bench.close("HarnessTest");
    }

    private static void newObject() {
        SplicedLoom x = new SplicedLoom();
        Bench.due("NONE", SplicedLoom.NONE, -1);
        Bench.due("new: trouble()", x.trouble(), 0);
        Bench.due("new: fault()", x.fault(), 0);
        Bench.due("new: where()", x.where(), -1);
        Bench.due("new: size(0)", x.size(0), 0);
        Bench.due("new: size(1)", x.size(1), 0);
        Bench.due("new: size(2)", x.size(2), 0);
        Bench.due("new: unused(0) throws", Bench.unused(x, 0), -99);
        Bench.refuses(x, "new: about(2)", x.about(2), 1);
    }

    /** 1 is told ahead of all else, also without a HARNESS. */
    private static void newObjectRefusesAll() {
        SplicedLoom x = new SplicedLoom();
        Bench.refuses(x, "new: named", x.named(97), 1);
        Bench.refuses(x, "new: node", x.node(0, 0), 1);
        Bench.refuses(x, "new: far", x.far(0, 0), 1);
        Bench.refuses(x, "new: way", x.way(0, 0, 0), 1);
        Bench.refuses(x, "new: side", x.side(1), 1);
        Bench.refusesNumber(x, "new: place", x.place(0, 0), 1);
        Bench.refuses(x, "new: meet", x.meet(1, 2), 1);
        Bench.refuses(x, "new: meetings", x.meetings(), 1);
        Bench.refuses(x, "new: lying", x.lying(0, 0), 1);
        Bench.refusesNumber(x, "new: extent", x.extent(0), 1);
        Bench.refuses(x, "new: span", x.span(), 1);
        Bench.refuses(x, "new: plug", x.plug(0, 0), 1);
        Bench.refuses(x, "new: net", x.net(0, 0), 1);
        Bench.refuses(x, "new: pin", x.pin(0, 0, 0), 1);
        Bench.refuses(x, "new: plugs", x.plugs(-1), 1);
        Bench.refuses(x, "new: pins", x.pins(-1, 0), 1);
        Bench.refuses(x, "new: splice", x.splice(0, 0), 1);
        Bench.refuses(x, "new: wires", x.wires(0, 0), 1);
        Bench.refuses(x, "new: wire", x.wire(0, 0, 0), 1);
        Bench.refuses(x, "new: reach", x.reach(0, 0, 0), 1);
        Bench.refuses(x, "new: total", x.total(-1, 0), 1);
        Bench.refuses(x, "new: bundle", x.bundle(0, 1, 0), 1);
        Bench.refuses(x, "new: thickest", x.thickest(5), 1);
        Bench.refuses(x, "new: through", x.through(0, 1), 1);
        Bench.refuses(x, "new: flaws", x.flaws(-1), 1);
        Bench.refuses(x, "new: flaw", x.flaw(-1, 0, 0), 1);
        Bench.refuses(x, "new: sound", x.sound(), 1);
        Bench.refuses(x, "new: flawed", x.flawed(), 1);
        Bench.refuses(x, "new: build", x.build(0, 0), 1);
        Bench.refuses(x, "new: common", x.common(0), 1);
        Bench.refuses(x, "new: commonPins", x.commonPins(0, 0), 1);
        Bench.refusesNumber(x, "new: given", x.given(0), 1);
        Bench.refuses(x, "new: families", x.families(0), 1);
        Bench.refuses(x, "new: groups", x.groups(9), 1);
        Bench.refuses(x, "new: group", x.group(0, 0), 1);
        Bench.refuses(x, "new: splices", x.splices(0, -5), 1);
        Bench.refuses(x, "new: stretch", x.stretch(1, 0), 1);
        Bench.due("new: undo", x.undo() ? 1 : 0, 0);
        Bench.due("new: undo's trouble", x.trouble(), 1);
    }

    private static void feed() {
        SplicedLoom x = new SplicedLoom();
        for (int i = 1; i <= 50; i++) {
            Bench.due("feed number " + i, x.feed(0, 0, 0, 0, 0), 20 * i);
        }
        Bench.due("feed of a full tape", x.feed(0, 0, 0, 0, 0), -1);
        Bench.due("size of a full tape", x.size(0), 1000);
        x.about(0);
        x.feed(0, 0, 0, 0, 0);
        Bench.due("feed is none that is refused", x.trouble(), 1);
    }

    private static void bytesHighestFirst() {
        SplicedLoom x = new SplicedLoom();
        // "board slack 0 joint ", and a last byte above 127
        x.feed(0x626f6172, 0x6420736c, 0x61636b20, 0x30206a6f, 0x696e7420);
        x.feed(0x30208080, 0, 0, 0, 0);
        Bench.refuses(x, "harness(24)", x.harness(24), 4);
        Bench.due("fault of a byte above 127", x.fault(), 1);
        Bench.due("place of a byte above 127", x.where(), 22);
    }

    private static void harness() {
        SplicedLoom x = new SplicedLoom();
        Bench.feedAll(x, SMALL);
        int size = x.size(0);
        Bench.refuses(x, "harness(-1)", x.harness(-1), 2);
        Bench.refuses(x, "harness of more than there is", x.harness(size + 1), 2);
        Bench.due("the tape stays behind 2", x.size(0), size);
        Bench.answers(x, "harness", x.harness(SMALL.length()), 3);
        Bench.due("the tape is empty", x.size(0), 0);
        x.splices(0, 0);
        x.stretch(1, 20);
        Bench.due("harness again", Bench.tell(x, SMALL), 3);
        Bench.due("nothing to undo in a new one", x.size(1), 0);
        Bench.due("no splice by hand in a new one", x.size(2), 0);
        Bench.due("net(0, 5)", x.net(0, 5), -2);
        Bench.due("undo", x.undo() ? 1 : 0, 0);
        Bench.feedAll(x, SMALL);
        Bench.answers(x, "harness of all with blanks", x.harness(x.size(0)), 3);
        String bare = "board slack 0 joint 0;node r;plug p on r holes 2 gauge 1 to 9;net n power gauge 1 of p 0,p 1";
        for (int turn = 0; turn < 2; turn++) {
            Bench.answers(x, "harness of less", Bench.tell(x, bare), 1);
            int[] want = {0, 0, 1, 0, 1, 1, 0};
            for (int what = 0; what < 7; what++) {
                Bench.answers(x, "less: about(" + what + ")", x.about(what), want[what]);
            }
        }
        String longest = SMALL + " ".repeat(1000 - SMALL.length());
        Bench.answers(x, "harness of 1000 bytes", Bench.tell(x, longest), 3);
    }

    private static void harnessStays() {
        SplicedLoom x = Bench.loomOf(SMALL);
        x.splices(1, 0);
        Bench.refuses(x, "a faulty one", Bench.tell(x, SMALL.replace("slack 7", "slack 8") + ";"), 4);
        Bench.due("the tape is empty behind 4", x.size(0), 0);
        Bench.due("slack stays", x.about(0), 7);
        Bench.due("hand stays", x.net(1, 5), 0);
        Bench.due("what can be undone stays", x.size(1), 1);
        Bench.refuses(x, "harness(1)", x.harness(1), 2);
        Bench.due("nets stay", x.about(5), 3);
    }

    private static void faultAndWhere() {
        SplicedLoom x = new SplicedLoom();
        Bench.tell(x, "board slack 100 joint 0");
        Bench.due("fault()", x.fault(), 4);
        Bench.due("where()", x.where(), 12);
        x.size(0);
        x.feed(0, 0, 0, 0, 0);
        Bench.unused(x, 0);
        Bench.due("where() behind calls that can't be refused", x.where(), 12);
        x.harness(-1);
        Bench.due("fault() stays behind 2", x.fault(), 4);
        Bench.due("where() behind 2", x.where(), -1);
        Bench.tell(new SplicedLoom(), "");
        x.harness(0);
        Bench.due("fault() of nothing", x.fault(), 1);
        Bench.due("where() of nothing", x.where(), 0);
        x.about(0);
        Bench.due("where() behind 1", x.where(), -1);
        Bench.due("fault() behind 1", x.fault(), 1);
        Bench.tell(x, SMALL);
        Bench.due("fault() without one", x.fault(), 0);
        Bench.due("where() without one", x.where(), -1);
    }

    private static void about() {
        SplicedLoom x = Bench.loomOf(SMALL);
        int[] want = {7, 9, 2, 2, 2, 3, 1};
        for (int what = 0; what < 7; what++) {
            Bench.answers(x, "about(" + what + ")", x.about(what), want[what]);
        }
        Bench.refuses(x, "about(7)", x.about(7), 1);
        Bench.refuses(x, "about(-1)", x.about(-1), 1);
    }

    /** As many NAMES as there may be. */
    private static void allNames() {
        StringBuilder text = new StringBuilder("board slack 0 joint 0;node a");
        for (int i = 1; i < 14; i++) {
            text.append(";node ").append((char) ('a' + i)).append(" off a up long 1");
        }
        for (int i = 0; i < 4; i++) {
            text.append(";option o").append((char) ('a' + i));
        }
        for (int i = 0; i < 8; i++) {
            text.append(";plug ").append((char) ('o' + i)).append(" on a holes 9 gauge 1 to 9");
        }
        for (int i = 0; i < 10; i++) {
            text.append(";net n").append((char) ('a' + i)).append(" power gauge 1 of o 0,v 1");
        }
        SplicedLoom x = Bench.loomOf(text.toString());
        Bench.answers(x, "the last node", x.named('n'), 13);
        for (int i = 0; i < 4; i++) {
            Bench.answers(x, "option " + i, x.named(Bench.name("o" + (char) ('a' + i))), 100 + i);
        }
        for (int i = 0; i < 8; i++) {
            Bench.answers(x, "plug " + i, x.named('o' + i), 200 + i);
        }
        for (int i = 0; i < 10; i++) {
            Bench.answers(x, "net " + i, x.named(Bench.name("n" + (char) ('a' + i))), 300 + i);
        }
    }

    private static void named() {
        SplicedLoom x = Bench.loomOf("board slack 0 joint 0;node slack;node abcdefg off slack up long 1;"
            + "option long;option on;plug up on slack holes 2 gauge 1 to 1;plug p on abcdefg holes 1 gauge 1 to 1;"
            + "net power power gauge 1 of up 0,up 1");
        Bench.answers(x, "a node", x.named(Bench.name("slack")), 0);
        Bench.answers(x, "a node of seven letters", x.named(Bench.name("abcdefg")), 1);
        Bench.answers(x, "an option", x.named(Bench.name("on")), 101);
        Bench.answers(x, "a plug", x.named(Bench.name("p")), 201);
        Bench.answers(x, "a net", x.named(Bench.name("power")), 300);
        Bench.due("the third net", Bench.loomOf(SMALL).named(Bench.name("k")), 302);
        allNames();
        Bench.refuses(x, "an unknown one", x.named(Bench.name("q")), 1);
        Bench.refuses(x, "no letters", x.named(0), 1);
        Bench.refuses(x, "a longer one", x.named(Bench.name("abcdefg") | 1L << 56), 1);
        Bench.refuses(x, "the letters behind others", x.named(Bench.name("p") << 8), 1);
        Bench.refuses(x, "a word of the language", x.named(Bench.name("node")), 1);
    }
}
