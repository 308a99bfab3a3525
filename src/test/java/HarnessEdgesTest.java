import java.lang.reflect.Method;
import java.lang.reflect.Modifier;
import java.util.NoSuchElementException;
import java.util.Set;
import java.util.TreeSet;

/** The face, Term IV, and promises 1 to 7: their edges. */
public final class HarnessEdgesTest {
    private static final long MIN = Edges.MIN;
    private static final long MAX = Edges.MAX;

    /** All calls that may be refused, with numbers that LOOM answers, and what they answer without a HARNESS. */
    private static final String[] REFUSABLE = {"about 0", "named 114", "node 0 0", "far 0 1", "way 0 1 0", "side 1",
        "place 0 0", "meet 1 2", "meetings", "lying 0 0", "extent 0", "span", "plug 0 0", "net 0 0", "pin 0 0 0",
        "plugs 0", "pins 0 0", "splice 0 0", "wires 0 0", "wire 0 0 0", "reach 0 0 0", "total 0 0", "bundle 0 1 0",
        "thickest 0", "through 0 1", "flaws 1", "flaw 1 0 0", "sound", "flawed", "build 0 0", "common 1",
        "commonPins 1 0", "given 1", "families 1", "groups 1", "group 1 0", "splices 0 0", "stretch 1 5"};

    public static void main(String[] args) {
        Edges.run(HarnessEdgesTest.class);
    }

    private static String nameOf(String call) {
        return call.split(" ")[0];
    }

    private static long[] numbersOf(String call) {
        String[] words = call.split(" ");
        long[] numbers = new long[words.length - 1];
        for (int i = 0; i < numbers.length; i++) {
            numbers[i] = Long.parseLong(words[i + 1]);
        }
        return numbers;
    }

    private static long noneOf(String call) {
        boolean least = Set.of("place", "extent", "given").contains(nameOf(call));
        return nameOf(call).equals("undo") ? 0 : least ? MIN : SplicedLoom.NONE;
    }

    // ---- the face

    @Says(in = "What it is", words = "An object is used for at most 512 calls after it has been made;")
    static void all512CallsAnswer() {
        SplicedLoom x = new SplicedLoom();
        int calls = 0;
        int wrong = 0;
        for (; calls < 50; calls++) {
            wrong += x.feed(0x20202020, 0x20202020, 0x20202020, 0x20202020, 0x20202020) == 20 * calls + 20 ? 0 : 1;
        }
        wrong += x.harness(1000) == -1 && x.where() == 1000 && x.fault() == 1 ? 0 : 1;
        calls += 3;
        String text = Looms.P + Looms.N;
        for (int at = 0; at < text.length(); at += 20, calls++) {
            x.feed(four(text, at), four(text, at + 4), four(text, at + 8), four(text, at + 12), four(text, at + 16));
        }
        wrong += x.harness(text.length()) == 1 ? 0 : 1;
        calls++;
        for (int acts = 1; calls < 510; calls += 2, acts++) {
            wrong += x.splices(0, 0) == (acts == 1 ? -2 : 0) && x.size(1) == Math.min(acts, 10) ? 0 : 1;
        }
        wrong += x.undo() ? 0 : 1;
        calls++;
        while (calls < 512) {
            wrong += x.net(0, 5) == 0 ? 0 : 1;
            calls++;
        }
        Bench.due("calls", calls, 512);
        Bench.due("wrong answers among them", wrong, 0);
    }

    private static int four(String text, int at) {
        int number = 0;
        for (int i = at; i < at + 4; i++) {
            number = number * 256 + (i < text.length() ? text.charAt(i) : ' ');
        }
        return number;
    }

    @Says(in = "The constants", words = "`NONE = -1`: There is none; refused.")
    static void none() {
        Bench.due("NONE", SplicedLoom.NONE, -1);
        Edges.refused(Looms::bare, SplicedLoom.NONE, 1, "about", 0);
    }

    @Says(in = "The public face", words = "public final class SplicedLoom {")
    static void faceAsTold() throws ReflectiveOperationException {
        Bench.due("the class is final", Modifier.isFinal(SplicedLoom.class.getModifiers()) ? 1 : 0, 1);
        Bench.due("constructors", SplicedLoom.class.getConstructors().length, 1);
        Bench.due("constants", SplicedLoom.class.getFields().length, 1);
        Set<String> calls = new TreeSet<>();
        for (String call : REFUSABLE) {
            calls.add(nameOf(call));
        }
        calls.addAll(Set.of("feed", "harness", "fault", "where", "undo", "unused", "size", "trouble"));
        int own = 0;
        for (Method method : SplicedLoom.class.getDeclaredMethods()) {
            boolean isPublic = Modifier.isPublic(method.getModifiers());
            own += isPublic ? 1 : 0;
            Bench.due(method.getName() + " is of the face, or private", isPublic == calls.contains(method.getName())
                && (isPublic || Modifier.isPrivate(method.getModifiers())) ? 1 : 0, 1);
            Bench.due(method.getName() + " tells the exceptions that it throws", method.getExceptionTypes().length,
                method.getName().equals("unused") ? 1 : 0);
        }
        Bench.due("calls", own, calls.size());
        Bench.due("unused tells its exception", SplicedLoom.class.getMethod("unused", int.class)
            .getExceptionTypes()[0] == NoSuchElementException.class ? 1 : 0, 1);
    }

    // ---- Term IV

    @Says(in = "IV", words = "TROUBLE of the latest call that may be refused (those of which a number is told here):")
    static void othersLeaveTroubleAsItWas() {
        SplicedLoom x = Looms.used();
        for (int trouble : new int[] {1, 2, 5, 0}) {
            Ask.of(x, trouble == 1 ? "about" : trouble == 2 ? "plugs" : "wire", trouble == 0 ? new long[] {0, 0, 0}
                : trouble == 5 ? new long[] {0, 1, 0} : new long[] {-1});
            Bench.due("trouble()", x.trouble(), trouble);
            Edges.says(x, 3, "fault");
            Edges.says(x, -1, "where");
            Edges.says(x, -1, "size", 3);
            Edges.says(x, 3, "size", 1);
            Edges.says(x, Ask.THROWN, "unused", 0);
            Edges.says(x, trouble, "trouble");
        }
        Ask.of(x, "about", 9);
        int size = x.size(0);
        for (int i = size + 20; i <= 1000; i += 20) {
            Edges.says(x, i, "feed", 0, 0, 0, 0, 0);
        }
        Edges.says(x, -1, "feed", 0, 0, 0, 0, 0);
    }

    @Says(in = "IV", words = "0 it wasn't;")
    static void zeroBehindACallThatWasNotRefused() {
        Edges.says(new SplicedLoom(), 0, "trouble");
        for (String call : REFUSABLE) {
            SplicedLoom x = Looms.loom();
            x.about(-1);
            Ask.of(x, nameOf(call), numbersOf(call));
            Bench.due("trouble() behind " + call, x.trouble(), 0);
        }
        SplicedLoom x = Looms.used();
        x.about(-1);
        Bench.due("undo()", x.undo() ? 1 : 0, 1);
        Bench.due("trouble() behind undo()", x.trouble(), 0);
        x.about(-1);
        Bench.due("harness()", x.harness(Looms.OTHER.length()), 1);
        Bench.due("trouble() behind harness()", x.trouble(), 0);
    }

    @Says(in = "IV", words = "1 there is none such; 2 a number; 4 a FAULT; 5 not so.")
    static void eachTrouble() {
        Edges.refused(1, "node", 5, 0);
        Edges.refused(2, "plugs", 4);
        Edges.fault(4, "board slack ^100");
        Edges.refused(5, "wire", 0, 1, 0);
    }

    @Says(in = "IV", words = "Refusals of a call are met in the order in which they are told;")
    static void refusalsInTheirOrder() {
        // 1 ahead of 2
        Edges.refused(1, "pins", 4, 3);
        Edges.refused(1, "splice", 4, -1);
        Edges.refused(1, "wires", -1, 3);
        Edges.refused(1, "wire", 4, 0, 3);
        Edges.refused(1, "reach", 4, 0, 5);
        Edges.refused(1, "total", 4, 10);
        Edges.refused(1, "bundle", 4, 0, 0);
        Edges.refused(1, "bundle", 4, 1, 3);
        Edges.refused(1, "through", 4, 0);
        Edges.refused(1, "flaw", 4, 0, 5);
        Edges.refused(1, "commonPins", 0, 3);
        Edges.refused(1, "group", 6, 3);
        Edges.refused(1, "splices", 3, 5);
        Edges.refused(1, "stretch", 0, 1000);
        // 2 ahead of 5, and of the second 1 of flaw
        Edges.refused(2, "wire", 4, 1, 0);
        Edges.refused(2, "flaw", 4, -1, 0);
        Edges.refused(() -> Looms.used(Looms.P + Looms.N), -1, 2, "families", 0);
        Edges.refused(() -> Looms.used(Looms.P + Looms.N), -1, 2, "groups", 6);
    }

    @Says(in = "IV", words = "1 is also told without a HARNESS.")
    static void withoutAHarness() {
        for (String call : REFUSABLE) {
            Edges.refused(Looms::bare, noneOf(call), 1, nameOf(call), numbersOf(call));
        }
        Edges.refused(Looms::bare, 0, 1, "undo");
    }

    @Says(in = "IV", words = "1 is also told without a HARNESS.")
    static void withoutAHarnessAheadOfAllElse() {
        for (String call : REFUSABLE) {
            long[] bad = numbersOf(call);
            for (long number : new long[] {-1, 99, MIN, MAX}) {
                java.util.Arrays.fill(bad, number);
                Edges.refused(Looms::bare, noneOf(call), 1, nameOf(call), bad);
            }
        }
    }

    // ---- promises

    @Says(in = "The calls", words = "---- the harness.")
    static void harnessBehindHarness() {
        // faulty ones and good ones by turns: each tells of itself alone
        SplicedLoom x = new SplicedLoom();
        String[] texts = {Looms.OTHER, "", Looms.LOOM, "board slack 100", Looms.LOOM + ";build 1", Looms.OTHER,
            Looms.OTHER, Looms.LOOM};
        int[] faults = {0, 1, 0, 4, 7, 0, 0, 0};
        boolean[] loom = {false, false, true, true, true, false, false, true};
        int[][] about = {{9, 8, 1, 0, 1, 1, 0}, {2, 3, 5, 2, 4, 3, 3}};
        for (int i = 0; i < texts.length; i++) {
            int[] want = about[loom[i] ? 1 : 0];
            Bench.due("harness() of \"" + texts[i] + "\"", Bench.tell(x, texts[i]), faults[i] == 0 ? want[5] : -1);
            Edges.says(x, faults[i] == 0 ? 0 : 4, "trouble");
            Edges.says(x, faults[i], "fault");
            Edges.says(x, 0, "size", 0);
            for (int what = 0; what < 7; what++) {
                Edges.is(x, want[what], "about", what);
            }
            Bench.due("named z", x.named('z'), loom[i] ? -1 : 0);
            Bench.due("named x", x.named('x'), loom[i] ? 100 : -1);
        }
    }

    @Says(in = "Promise 1", words = "No HARNESS.")
    static void newObject() {
        SplicedLoom x = new SplicedLoom();
        Edges.says(x, 0, "trouble");
        Edges.says(x, 0, "fault");
        Edges.says(x, -1, "where");
        Edges.says(x, 0, "size", 0);
        Edges.says(x, 0, "size", 1);
        Edges.says(x, 0, "size", 2);
        Edges.says(x, Ask.THROWN, "unused", 0);
        for (int what = 0; what < 7; what++) {
            Edges.refused(SplicedLoom::new, -1, 1, "about", what);
        }
        Edges.refused(SplicedLoom::new, 0, 1, "undo");
    }

    @Says(in = "Promise 2", words = "Twenty bytes come behind THE TAPE, of each number the highest first:")
    static void eachByteOfFeed() {
        for (int at = 0; at < 20; at++) {
            for (int sign : new int[] {'#', 0x80, 0xff, 0, 1}) {
                int[] numbers = {0x20202020, 0x20202020, 0x20202020, 0x20202020, 0x20202020};
                int shift = 24 - 8 * (at % 4);
                numbers[at / 4] = numbers[at / 4] & ~(255 << shift) | sign << shift;
                for (int behind = 0; behind < 2; behind++) {
                    SplicedLoom x = new SplicedLoom();
                    for (int i = 0; i < behind; i++) {
                        x.feed(0x20202020, 0x20202020, 0x20202020, 0x20202020, 0x20202020);
                    }
                    x.feed(numbers[0], numbers[1], numbers[2], numbers[3], numbers[4]);
                    x.harness(20 + 20 * behind);
                    Bench.due("fault() of byte " + at, x.fault(), 1);
                    Bench.due("where() of byte " + at, x.where(), at + 20 * behind);
                }
            }
        }
    }

    @Says(in = "Promise 2", words = "how many it has;")
    static void howManyBytes() {
        SplicedLoom x = new SplicedLoom();
        for (int i = 1; i <= 50; i++) {
            Edges.says(x, 20 * i, "feed", -1, MIN, MAX, 0, 1);
            Edges.says(x, 20 * i, "size", 0);
        }
        SplicedLoom y = Looms.bare();
        y.harness(Looms.OTHER.length());
        Edges.says(y, 20, "feed", 0, 0, 0, 0, 0);
    }

    @Says(in = "Promise 2", words = "NONE, and none comes, if there would be more than 1,000.")
    static void moreThanThousandBytes() {
        SplicedLoom x = new SplicedLoom();
        String text = Looms.P + Looms.N;
        Bench.feedAll(x, text + " ".repeat(1000 - text.length()));
        Edges.says(x, 1000, "size", 0);
        x.about(-1);
        for (int i = 0; i < 3; i++) {
            Edges.says(x, -1, "feed", 0x23232323, 0x23232323, 0x23232323, 0x23232323, 0x23232323);
            Edges.says(x, 1000, "size", 0);
        }
        Bench.due("what was fed stays", x.harness(1000), 1);
        Edges.says(x, 20, "feed", 0, 0, 0, 0, 0);
    }

    @Says(in = "Promise 2", words = "NONE, and none comes, if there would be more than 1,000.")
    static void lastTwentyOfThousand() {
        SplicedLoom x = new SplicedLoom();
        for (int i = 0; i < 49; i++) {
            x.feed(0x20202020, 0x20202020, 0x20202020, 0x20202020, 0x20202020);
        }
        Edges.says(x, 980, "size", 0);
        Edges.says(x, 1000, "feed", 0x20202020, 0x20202020, 0x20202020, 0x20202020, 0x20202023);
        x.harness(1000);
        Bench.due("where()", x.where(), 999);
    }

    @Says(in = "Promise 3", words = "The first n bytes of THE TAPE (it is empty then) are the HARNESS from now on")
    static void firstBytesAreTheHarness() {
        String text = Looms.P + Looms.N;
        SplicedLoom x = new SplicedLoom();
        Bench.feedAll(x, text + "#########################");
        Edges.is(x, 1, "harness", text.length());
        Edges.says(x, 0, "size", 0);
        Edges.is(x, 1, "about", 2);
        // all that was on THE TAPE is gone, also what is behind the first n bytes
        Edges.says(x, 20, "feed", 0, 0, 0, 0, 0);
        SplicedLoom y = Looms.loom();
        Bench.feedAll(y, Looms.OTHER);
        Edges.is(y, 1, "harness", Looms.OTHER.length());
        Edges.is(y, 9, "about", 0);
        Edges.is(y, 1, "about", 2);
        Edges.is(y, 0, "about", 6);
        Edges.refused(() -> {
            SplicedLoom z = Looms.loom();
            Bench.tell(z, Looms.OTHER);
            return z;
        }, -1, 1, "node", 1, 0);
        // by one byte less the last WHOLE is another one
        SplicedLoom less = new SplicedLoom();
        Bench.feedAll(less, Looms.P + "net n power gauge 1 of p 0,p 11");
        Edges.is(less, 1, "harness", (Looms.P + "net n power gauge 1 of p 0,p 1").length());
        Edges.is(less, 1, "pin", 0, 1, 1);
    }

    @Says(in = "Promise 3", words = "(no SPLICE by hand, nothing to undo):")
    static void nothingByHandInANewHarness() {
        SplicedLoom x = Looms.acted();
        Edges.says(x, 3, "size", 1);
        Edges.says(x, 2, "size", 2);
        Bench.tell(x, Looms.LOOM);
        Edges.says(x, 0, "size", 1);
        Edges.says(x, 0, "size", 2);
        for (int net = 0; net < 3; net++) {
            Edges.is(x, -2, "net", net, 5);
        }
        Edges.is(x, 4, "node", 2, 1);
        Edges.is(x, 1, "splice", 1, 0);
        Edges.refused(() -> {
            SplicedLoom y = Looms.acted();
            Bench.tell(y, Looms.LOOM);
            return y;
        }, 0, 1, "undo");
    }

    @Says(in = "Promise 3", words = "how many NETS.")
    static void harnessTellsItsNets() {
        StringBuilder text = new StringBuilder(Looms.P);
        for (int nets = 1; nets <= 10; nets++) {
            text.append(nets > 1 ? ";" : "").append("net ").append((char) ('a' + nets)).append(" power gauge 1 of p 0,p 1");
            SplicedLoom x = new SplicedLoom();
            Bench.feedAll(x, text.toString());
            Edges.is(x, nets, "harness", text.length());
        }
    }

    @Says(in = "Promise 3", words = "NONE: 2 (n; THE TAPE stays);")
    static void moreBytesThanTheTapeHas() {
        int size = Looms.used().size(0);
        for (long n : new long[] {-1, size + 1, 1000, 1001, MIN, MAX}) {
            Edges.refused(2, "harness", n);
            Edges.refused(Looms::bare, -1, 2, "harness", n);
        }
        Edges.refused(SplicedLoom::new, -1, 2, "harness", 1);
        Edges.refused(SplicedLoom::new, -1, 2, "harness", -1);
        SplicedLoom x = Looms.bare();
        x.harness(-1);
        Edges.says(x, size, "size", 0);
        Edges.is(x, 1, "harness", size);
    }

    @Says(in = "Promise 3", words = "4 (the HARNESS stays).")
    static void harnessStaysBehindAFault() {
        Edges.fault(1, "");
        Edges.fault(4, "board slack ^100 joint 0;node r");
        Edges.fault(6, Looms.R + "plug p on r holes 1 gauge 1 to 1");
        Edges.fault(1, Looms.LOOM + ";");
        Edges.fault(7, Looms.LOOM + ";build 1");
        SplicedLoom x = Looms.used();
        Bench.due("harness(0)", x.harness(0), -1);
        Bench.due("trouble()", x.trouble(), 4);
        Bench.due("THE TAPE is empty", x.size(0), 0);
        Bench.due("where()", x.where(), 0);
        Edges.is(x, 2, "about", 0);
        Edges.is(x, 3, "net", 0, 5);
        Edges.is(x, 8, "node", 2, 1);
        Edges.says(x, 3, "size", 1);
        SplicedLoom y = Looms.bare();
        Bench.due("harness(20)", y.harness(20), -1);
        Bench.due("trouble()", y.trouble(), 4);
        Bench.due("THE TAPE is empty", y.size(0), 0);
        Edges.refused(() -> {
            SplicedLoom z = Looms.bare();
            z.harness(20);
            return z;
        }, -1, 1, "about", 0);
    }

    @Says(in = "Promise 4", words = "The FAULT of the latest harness() not refused by 2;")
    static void faultOfTheLatestHarness() {
        SplicedLoom x = new SplicedLoom();
        Bench.tell(x, "node");
        Edges.says(x, 6, "fault");
        Bench.tell(x, "board slack 100");
        Edges.says(x, 4, "fault");
        x.harness(1);
        Bench.due("trouble()", x.trouble(), 2);
        Edges.says(x, 4, "fault");
        x.about(0);
        x.feed(0, 0, 0, 0, 0);
        x.undo();
        Edges.says(x, 4, "fault");
        Bench.tell(x, Looms.B + "#");
        Edges.says(x, 1, "fault");
    }

    @Says(in = "Promise 4", words = "0 without one.")
    static void noFault() {
        SplicedLoom x = new SplicedLoom();
        Edges.says(x, 0, "fault");
        x.harness(1);
        Edges.says(x, 0, "fault");
        x.harness(0);
        Edges.says(x, 1, "fault");
        Bench.tell(x, Looms.LOOM);
        Edges.says(x, 0, "fault");
        x.harness(-1);
        Edges.says(x, 0, "fault");
    }

    @Says(in = "Promise 5", words = "Its place, if the latest call that may be refused was by 4;")
    static void whereBehindAFault() {
        SplicedLoom x = Looms.acted();
        Bench.tell(x, "board slack 100");
        for (int i = 0; i < 2; i++) {
            // calls that can't be refused leave it
            Edges.says(x, 12, "where");
            Edges.says(x, 4, "fault");
            Edges.says(x, 20, "feed", 0, 0, 0, 0, 0);
            Edges.says(x, 20, "size", 0);
            Edges.says(x, Ask.THROWN, "unused", 9);
            Edges.says(x, 4, "trouble");
            Edges.says(x, 12, "where");
            Bench.due("harness(0)", x.harness(0), -1);
            Edges.says(x, 0, "where");
            Bench.tell(x, "board slack 100");
        }
    }

    @Says(in = "Promise 5", words = "NONE else.")
    static void whereBehindOtherCalls() {
        Edges.says(new SplicedLoom(), -1, "where");
        for (String call : REFUSABLE) {
            for (int made = 0; made < 2; made++) {
                SplicedLoom x = made == 0 ? new SplicedLoom() : Looms.loom();
                Bench.tell(x, "board slack 100");
                Bench.due("where()", x.where(), 12);
                Ask.of(x, nameOf(call), numbersOf(call));
                Bench.due("where() behind " + call, x.where(), -1);
                Bench.due("fault() behind " + call, x.fault(), 4);
            }
        }
        SplicedLoom x = new SplicedLoom();
        x.harness(0);
        x.harness(1);
        Edges.says(x, -1, "where");
        x.harness(0);
        x.undo();
        Edges.says(x, -1, "where");
        x.harness(0);
        Bench.tell(x, Looms.LOOM);
        Edges.says(x, -1, "where");
    }

    @Says(in = "Promise 6", words = "0 SLACK, 1 JOINT, 2 NODES, 3 OPTIONS, 4 PLUGS, 5 NETS, 6 BUILDS.")
    static void aboutALoom() {
        int[] want = {2, 3, 5, 2, 4, 3, 3};
        int[] least = {0, 0, 1, 0, 1, 1, 0};
        SplicedLoom x = Looms.loom();
        SplicedLoom y = Looms.told(Looms.P + Looms.N);
        for (int what = 0; what < 7; what++) {
            Edges.is(x, want[what], "about", what);
            Edges.is(y, least[what], "about", what);
        }
    }

    @Says(in = "Promise 6", words = "NONE: 1 (what, too).")
    static void aboutNothing() {
        for (long what : Edges.out(7)) {
            Edges.refused(1, "about", what);
        }
        Edges.refused(Looms::bare, -1, 1, "about", 6);
    }

    @Says(in = "Promise 7", words = "What a NAME is (seven letters at most as bytes, the last one lowest,")
    static void namesOfOneAndSevenLetters() {
        SplicedLoom x = Looms.told(Looms.B + "node a;node abcdefg off a up long 1;node ba off a up long 1;"
            + "node ab off a up long 1;plug zzzzzzz on a holes 2 gauge 1 to 1;net n power gauge 1 of zzzzzzz 0,zzzzzzz 1");
        Edges.is(x, 0, "named", 0x61);
        Edges.is(x, 1, "named", 0x61626364656667L);
        Edges.is(x, 2, "named", 0x6261);
        Edges.is(x, 3, "named", 0x6162);
        Edges.is(x, 200, "named", 0x7a7a7a7a7a7a7aL);
    }

    @Says(in = "Promise 7", words = "nothing ahead of the first):")
    static void somethingAheadOfTheFirst() {
        Edges.refused(1, "named", 1L << 56 | 'r');
        Edges.refused(1, "named", 1L << 63 | 'r');
        Edges.refused(1, "named", 0x72L << 8);
        Edges.refused(1, "named", 0x72L << 56);
        Edges.refused(1, "named", 0x2072L);
        Edges.refused(1, "named", 0x7272L);
        Edges.refused(1, "named", 1L << 32 | 'r');
        Edges.refused(() -> Looms.used(Looms.R + "plug abcdefg on r holes 2 gauge 1 to 1;"
            + "net n power gauge 1 of abcdefg 0,abcdefg 1"), -1, 1, "named", 0x7061626364656667L);
    }

    @Says(in = "Promise 7", words = "its number, and 100 for an OPTION, 200 for a PLUG, 300 for a NET.")
    static void numbersOfNames() {
        SplicedLoom x = Looms.loom();
        String[] names = {"r", "a", "b", "c", "d", "x", "y", "p", "q", "s", "t", "n", "m", "k"};
        int[] want = {0, 1, 2, 3, 4, 100, 101, 200, 201, 202, 203, 300, 301, 302};
        for (int i = 0; i < names.length; i++) {
            Edges.is(x, want[i], "named", Bench.name(names[i]));
        }
    }

    @Says(in = "Promise 7", words = "NONE: 1.")
    static void noSuchName() {
        for (String name : new String[] {"z", "rr", "ab", "node", "up", "power", "slack", "y y"}) {
            Edges.refused(1, "named", Bench.name(name));
        }
        for (long name : new long[] {0, -1, 1, Long.MIN_VALUE, Long.MAX_VALUE, 'R'}) {
            Edges.refused(1, "named", name);
        }
        // of the harness ahead of this one, and of a faulty one
        Edges.refused(() -> {
            SplicedLoom x = Looms.loom();
            Bench.tell(x, Looms.OTHER);
            Bench.tell(x, Looms.R + "option v #");
            return x;
        }, -1, 1, "named", 'v');
        Edges.refused(() -> {
            SplicedLoom x = Looms.loom();
            Bench.tell(x, Looms.OTHER);
            return x;
        }, -1, 1, "named", 'a');
    }
}
