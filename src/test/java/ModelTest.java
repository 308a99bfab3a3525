import java.util.ArrayList;
import java.util.List;
import java.util.Set;
import java.util.TreeSet;

/** All calls of many harnesses, whole ones and faulty ones, against the model. */
public final class ModelTest {
    private static final int MIN = Integer.MIN_VALUE;
    private static final int HARNESSES = 800;
    private static final int SPOILT = 30000;
    private static final int CALLS = 180;

    private final Dice dice;
    private SplicedLoom x;
    private Model m;
    private String text;
    private int trouble;

    private ModelTest(Dice dice) {
        this.dice = dice;
    }

    public static void main(String[] args) {
        Dice dice = new Dice(20261118);
        int[] faults = new int[8];
        for (int i = 0; i < SPOILT; i++) {
            faults[compareTexts(Texts.spoilt(Texts.harness(dice), dice))]++;
        }
        for (int fault = 0; fault < 8; fault++) {
            Bench.due("enough texts of fault " + fault, faults[fault] > 20 ? 1 : 0, 1);
        }
        for (int i = 0; i < HARNESSES; i++) {
            new ModelTest(dice).compareHarnesses();
        }
        Bench.close("ModelTest");
    }

    private static int compareTexts(String text) {
        if (text.length() > 1000) {
            return 0;
        }
        SplicedLoom x = new SplicedLoom();
        int got = Bench.tell(x, text);
        int want = -1;
        int fault = 0;
        int place = -1;
        try {
            want = TextModel.read(text).nets.size();
        } catch (TextModel.Fault e) {
            fault = e.number;
            place = e.place;
        }
        Bench.due("harness of \"" + text + "\"", got, want);
        Bench.due("fault of \"" + text + "\"", x.fault(), fault);
        Bench.due("where of \"" + text + "\"", x.where(), place);
        return fault;
    }

    /** One harness, or three, one after another, with a faulty one ahead of each. */
    private void compareHarnesses() {
        x = new SplicedLoom();
        int turns = 1 + 2 * dice.next(2);
        for (int turn = 0; turn < turns; turn++) {
            if (turn > 0) {
                String part = text.substring(0, dice.next(text.length()));
                Bench.refuses(x, "a faulty harness", Bench.tell(x, part + "#"), 4);
            }
            compareHarness(CALLS / turns);
        }
    }

    private void compareHarness(int calls) {
        text = Texts.harness(dice);
        if (text.length() > 1000) {
            text = HarnessTest.SMALL;
        }
        int nets = Bench.tell(x, text);
        try {
            m = TextModel.read(text);
        } catch (TextModel.Fault e) {
            Bench.due("the model reads \"" + text + "\"", e.number, 0);
            return;
        }
        due("harness", nets, m.nets.size());
        for (String name : m.names.keySet()) {
            if (dice.next(3) == 0) {
                due("named(" + name + ")", x.named(Bench.name(name)), m.names.get(name));
            }
        }
        for (int i = 0; i < calls; i++) {
            compareCall(dice.next(48));
        }
    }

    private void due(String call, long got, long want) {
        Bench.due(call + " of \"" + text + "\"", got, want);
        Bench.due("trouble() behind " + call + " of \"" + text + "\"", x.trouble(), want == -1 || want == MIN
            ? trouble : 0);
        trouble = 0;
    }

    private int refusal(int number, int answer) {
        trouble = number;
        return answer;
    }

    private int node() {
        return dice.next(20) == 0 ? dice.between(-2, 16) : dice.next(m.nodes.size());
    }

    private int net() {
        return dice.next(20) == 0 ? dice.between(-2, 12) : dice.next(m.nets.size());
    }

    private int variant() {
        return dice.next(20) == 0 ? dice.between(-2, 18) : dice.next(1 << m.options);
    }

    private int builds() {
        return dice.next(10) == 0 ? dice.between(-2, 34) : dice.next(1 << m.builds.size());
    }

    private boolean isNode(int i) {
        return i >= 0 && i < m.nodes.size();
    }

    private boolean isBundle(int i) {
        return i >= 1 && i < m.nodes.size();
    }

    private boolean isNet(int i) {
        return i >= 0 && i < m.nets.size();
    }

    private boolean isVariant(int i) {
        return i >= 0 && i < 1 << m.options;
    }

    private boolean areBuilds(int bits) {
        return bits > 0 && bits < 1 << m.builds.size();
    }

    private static Set<Integer> setOf(int bits) {
        Set<Integer> set = new TreeSet<>();
        for (int i = 0; i < 5; i++) {
            if ((bits >> i & 1) == 1) {
                set.add(i);
            }
        }
        return set;
    }

    private static int bitsOf(List<Integer> row) {
        return row.stream().mapToInt(i -> 1 << i).sum();
    }

    private void compareCall(int call) {
        if (call < 10) {
            compareTree(call);
        } else if (call < 13) {
            compareParts(call);
        } else if (call < 23) {
            compareVariants(call);
        } else if (call < 27) {
            compareFlaws(call);
        } else if (call < 34) {
            compareBuilds(call);
        } else if (call < 40) {
            compareActs(call);
        } else {
            compareTold(call);
        }
    }

    private void compareTree(int call) {
        int a = node();
        int b = node();
        int k = dice.between(-1, 6);
        switch (call) {
            case 0: {
                int want = refusal(1, -1);
                if (isNode(a) && k >= 0 && k <= 2) {
                    int off = (int) m.nodes.stream().filter(node -> node.off == a).count();
                    want = k == 0 ? m.nodes.get(a).off : k == 1 ? m.nodes.get(a).length : off;
                }
                due("node(" + a + "," + k + ")", x.node(a, k), want);
                break;
            }
            case 1:
                due("far(" + a + "," + b + ")", x.far(a, b), isNode(a) && isNode(b) ? m.far(a, b) : refusal(1, -1));
                break;
            case 2: {
                int want = refusal(1, -1);
                if (isNode(a) && isNode(b) && k >= 0 && k < m.way(a, b).size()) {
                    want = m.way(a, b).get(k);
                }
                due("way(" + a + "," + b + "," + k + ")", x.way(a, b, k), want);
                break;
            }
            case 3:
                due("side(" + a + ")", x.side(a), isBundle(a) ? m.nodes.get(a).side : refusal(1, -1));
                break;
            case 4:
                due("place(" + a + "," + k + ")", x.place(a, k),
                    isNode(a) && (k == 0 || k == 1) ? m.place(a)[k] : refusal(1, MIN));
                break;
            case 5:
                due("meet(" + a + "," + b + ")", x.meet(a, b),
                    isBundle(a) && isBundle(b) && a != b ? m.meet(a, b) ? 1 : 0 : refusal(1, -1));
                break;
            case 6: {
                int want = 0;
                for (int i = 1; i < m.nodes.size(); i++) {
                    for (int j = 1; j < i; j++) {
                        want += m.meet(i, j) ? 1 : 0;
                    }
                }
                due("meetings()", x.meetings(), want);
                break;
            }
            case 7: {
                int[] near = m.place(dice.next(m.nodes.size()));
                int px = near[0] + dice.between(-2, 2) * dice.next(2);
                int py = near[1] + dice.between(-2, 2) * dice.next(2);
                int want = 0;
                for (int i = 1; i < m.nodes.size(); i++) {
                    want |= m.pointsOf(i).contains("[" + px + ", " + py + "]") ? 1 << i : 0;
                }
                due("lying(" + px + "," + py + ")", x.lying(px, py), want);
                break;
            }
            case 8: {
                TreeSet<Integer> all = new TreeSet<>();
                for (int i = 0; i < m.nodes.size() && k >= 0 && k < 4; i++) {
                    all.add(m.place(i)[k / 2]);
                }
                due("extent(" + k + ")", x.extent(k),
                    all.isEmpty() ? refusal(1, MIN) : k % 2 == 0 ? all.first() : all.last());
                break;
            }
            default: {
                int want = 0;
                for (int i = 0; i < m.nodes.size(); i++) {
                    for (int j = 0; j < i; j++) {
                        want = Math.max(want, m.far(i, j));
                    }
                }
                due("span()", x.span(), want);
                break;
            }
        }
    }

    private void compareParts(int call) {
        int what = dice.between(-1, 6);
        int k = dice.between(-1, 5);
        int net = net();
        int want = refusal(1, -1);
        if (call == 10) {
            int i = dice.between(-1, m.plugs.size());
            if (i >= 0 && i < m.plugs.size() && what >= 0 && what < 6) {
                Model.Plug plug = m.plugs.get(i);
                want = new int[] {plug.node, plug.holes, plug.from, plug.to, plug.option, plug.with}[what];
            }
            due("plug(" + i + "," + what + ")", x.plug(i, what), want);
        } else if (call == 11) {
            if (isNet(net) && what >= 0 && what < 6) {
                Model.Net told = m.nets.get(net);
                want = new int[] {told.kind, told.gauge, told.pins.size(), told.option, told.with, told.hand}[what];
            }
            due("net(" + net + "," + what + ")", x.net(net, what), want);
        } else {
            int part = dice.between(0, 2);
            if (isNet(net) && k >= 0 && k < m.nets.get(net).pins.size() && part < 2) {
                Model.Pin pin = m.nets.get(net).pins.get(k);
                want = part == 0 ? pin.plug : pin.cavity;
            }
            due("pin(" + net + "," + k + "," + part + ")", x.pin(net, k, part), want);
        }
    }

    private void compareVariants(int call) {
        int variant = variant();
        int net = net();
        int node = node();
        int k = dice.between(-1, 5);
        boolean good = isVariant(variant);
        switch (call) {
            case 13: {
                int want = good ? 0 : refusal(2, -1);
                for (int i = 0; i < m.plugs.size() && good; i++) {
                    want |= Model.there(m.plugs.get(i).option, m.plugs.get(i).with, variant) ? 1 << i : 0;
                }
                due("plugs(" + variant + ")", x.plugs(variant), want);
                break;
            }
            case 14: {
                int want = !isNet(net) ? refusal(1, -1) : !good ? refusal(2, -1) : bitsOf(m.pins(variant, net));
                due("pins(" + variant + "," + net + ")", x.pins(variant, net), want);
                break;
            }
            case 15: {
                int want = !isNet(net) ? refusal(1, -1) : !good ? refusal(2, -1) : m.splice(net, m.pins(variant, net));
                due("splice(" + variant + "," + net + ")", x.splice(variant, net), want);
                break;
            }
            case 16: {
                int want = !isNet(net) ? refusal(1, -1) : !good ? refusal(2, -1)
                    : m.wires(net, m.pins(variant, net)).size();
                due("wires(" + variant + "," + net + ")", x.wires(variant, net), want);
                break;
            }
            case 17:
                due("wire(" + variant + "," + net + "," + k + ")", x.wire(variant, net, k), wire(variant, net, k));
                break;
            case 18: {
                int want = !isNet(net) || !isNode(node) ? refusal(1, -1) : !good ? refusal(2, -1)
                    : m.reach(net, m.pins(variant, net), node);
                due("reach(" + variant + "," + net + "," + node + ")", x.reach(variant, net, node), want);
                break;
            }
            case 19: {
                int gauge = dice.between(-1, 10);
                due("total(" + variant + "," + gauge + ")", x.total(variant, gauge), total(variant, gauge));
                break;
            }
            case 20: {
                int what = dice.between(0, 3);
                int want = !isBundle(node) || what > 2 ? refusal(1, -1) : !good ? refusal(2, -1)
                    : what == 0 ? java.util.Arrays.stream(m.runs(variant, node)).sum()
                    : what == 1 ? m.body(variant, node) : Model.round(m.body(variant, node));
                due("bundle(" + variant + "," + node + "," + what + ")", x.bundle(variant, node, what), want);
                break;
            }
            case 21: {
                int want = good ? -2 : refusal(2, -1);
                for (int i = m.nodes.size() - 1; i > 0 && good; i--) {
                    want = want == -2 || m.body(variant, i) >= m.body(variant, want) ? i : want;
                }
                due("thickest(" + variant + ")", x.thickest(variant), want);
                break;
            }
            default: {
                int want = !isBundle(node) ? refusal(1, -1) : !good ? refusal(2, -1) : 0;
                if (want == 0) {
                    int[] runs = m.runs(variant, node);
                    for (int i = 0; i < runs.length; i++) {
                        want |= runs[i] > 0 ? 1 << i : 0;
                    }
                }
                due("through(" + variant + "," + node + ")", x.through(variant, node), want);
                break;
            }
        }
    }

    private int wire(int variant, int net, int k) {
        if (!isNet(net) || k < 0 || k >= m.nets.get(net).pins.size()) {
            return refusal(1, -1);
        }
        if (!isVariant(variant)) {
            return refusal(2, -1);
        }
        for (Model.Wire wire : m.wires(net, m.pins(variant, net))) {
            if (wire.pins.contains(k)) {
                return wire.length;
            }
        }
        return refusal(5, -1);
    }

    private int total(int variant, int gauge) {
        if (gauge < 0 || gauge > 9) {
            return refusal(1, -1);
        }
        if (!isVariant(variant)) {
            return refusal(2, -1);
        }
        int all = 0;
        for (int net = 0; net < m.nets.size(); net++) {
            if (gauge == 0 || m.nets.get(net).gauge == gauge) {
                all += m.lengths(net, m.pins(variant, net));
            }
        }
        return all;
    }

    private void compareFlaws(int call) {
        int variant = variant();
        boolean good = isVariant(variant);
        if (call == 23) {
            due("flaws(" + variant + ")", x.flaws(variant), good ? m.flaws(variant).size() : refusal(2, -1));
        } else if (call == 24) {
            List<int[]> flaws = good ? m.flaws(variant) : new ArrayList<>();
            int i = dice.between(-1, flaws.size());
            int what = dice.between(-1, 5);
            int want = what < 0 || what > 4 ? refusal(1, -1) : !good ? refusal(2, -1)
                : i < 0 || i >= flaws.size() ? refusal(1, -1) : flaws.get(i)[what];
            due("flaw(" + variant + "," + i + "," + what + ")", x.flaw(variant, i, what), want);
        } else if (call == 25) {
            int want = 0;
            for (int v = 0; v < 1 << m.options; v++) {
                want |= m.flaws(v).isEmpty() ? 1 << v : 0;
            }
            due("sound()", x.sound(), want);
        } else {
            int want = 0;
            for (int i = 0; i < m.builds.size(); i++) {
                want += m.flaws(m.variantOf(i)).size();
            }
            due("flawed()", x.flawed(), want);
        }
    }

    private void compareBuilds(int call) {
        int builds = builds();
        boolean good = areBuilds(builds);
        int net = net();
        int k = dice.between(0, 6);
        int build = dice.between(-1, m.builds.size());
        boolean isBuild = build >= 0 && build < m.builds.size();
        boolean rows = k >= 1 && k <= 5 && !m.builds.isEmpty();
        int none = k < 1 || k > 5 ? 2 : 5;
        switch (call) {
            case 27: {
                int want = !isBuild || k > 1 ? refusal(1, -1)
                    : k == 0 ? m.variantOf(build) : m.builds.get(build).harnesses;
                due("build(" + build + "," + k + ")", x.build(build, k), want);
                break;
            }
            case 28:
                due("common(" + builds + ")", x.common(builds), good ? m.common(setOf(builds)) : refusal(2, -1));
                break;
            case 29: {
                int want = !isNet(net) ? refusal(1, -1) : !good ? refusal(2, -1)
                    : bitsOf(m.commonPins(setOf(builds), net));
                due("commonPins(" + builds + "," + net + ")", x.commonPins(builds, net), want);
                break;
            }
            case 30: {
                // may be -1 itself: so trouble is asked by hand
                int want = good ? m.given(setOf(builds)) : MIN;
                Bench.due("given(" + builds + ") of \"" + text + "\"", x.given(builds), want);
                Bench.due("trouble() behind given", x.trouble(), good ? 0 : 2);
                break;
            }
            case 31:
                due("families(" + k + ")", x.families(k), rows ? m.families(k)[0] : refusal(none, -1));
                break;
            case 32: {
                int want = rows ? 0 : refusal(none, -1);
                for (int i = 1; i <= m.builds.size() && rows; i++) {
                    want = Math.max(want, m.families(k)[i] + 1);
                }
                due("groups(" + k + ")", x.groups(k), want);
                break;
            }
            default: {
                int want = !isBuild ? refusal(1, -1) : !rows ? refusal(none, -1) : m.families(k)[build + 1];
                due("group(" + k + "," + build + ")", x.group(k, build), want);
                break;
            }
        }
    }

    private void compareActs(int call) {
        if (call == 34 || call == 35) {
            int net = net();
            int node = dice.next(4) == 0 ? -1 : node();
            int want = !isNet(net) ? refusal(1, -1) : node != -1 && !isNode(node) ? refusal(2, -1)
                : m.splices(net, node);
            due("splices(" + net + "," + node + ")", x.splices(net, node), want);
        } else if (call == 36 || call == 37) {
            int node = node();
            int length = dice.next(20) == 0 ? 1000 * dice.next(2) : dice.between(1, 9);
            int want = !isBundle(node) ? refusal(1, -1) : length < 1 || length > 999 ? refusal(2, -1)
                : m.stretch(node, length);
            due("stretch(" + node + "," + length + ")", x.stretch(node, length), want);
        } else if (dice.next(2) == 0) {
            boolean want = m.undo();
            Bench.due("undo() of \"" + text + "\"", x.undo() ? 1 : 0, want ? 1 : 0);
            Bench.due("trouble() behind undo()", x.trouble(), want ? 0 : 1);
        }
    }

    private void compareTold(int call) {
        if (call < 44) {
            List<Integer> unused = m.unused();
            int i = dice.between(-1, unused.size());
            Bench.due("unused(" + i + ") of \"" + text + "\"", Bench.unused(x, i),
                i >= 0 && i < unused.size() ? unused.get(i) : -99);
        } else {
            Bench.due("size(0)", x.size(0), 0);
            Bench.due("size(1)", x.size(1), m.undoable());
            Bench.due("size(2)", x.size(2), m.nets.stream().filter(net -> net.hand >= 0).count());
        }
    }
}
