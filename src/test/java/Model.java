import java.util.ArrayDeque;
import java.util.ArrayList;
import java.util.Arrays;
import java.util.Deque;
import java.util.HashMap;
import java.util.HashSet;
import java.util.LinkedHashMap;
import java.util.List;
import java.util.Map;
import java.util.Set;
import java.util.TreeSet;

/** The document's terms once more, told the long way round, to compare the class with. */
final class Model {
    static final class Node {
        int off;
        int side;
        int length;
    }

    static final class Plug {
        int node;
        int holes;
        int from;
        int to;
        int option = -2;
        int with = -2;
    }

    static final class Pin {
        final int plug;
        final int cavity;

        Pin(int plug, int cavity) {
            this.plug = plug;
            this.cavity = cavity;
        }
    }

    static final class Net {
        int kind;
        int gauge;
        int option = -2;
        int with = -2;
        int hand = -2;
        final List<Pin> pins = new ArrayList<>();
    }

    static final class Build {
        final Set<Integer> options = new TreeSet<>();
        int harnesses;
    }

    /** A wire of a net to pins (one, or both of two), between two nodes. */
    static final class Wire {
        final List<Integer> pins = new ArrayList<>();
        int from;
        int to;
        int length;
    }

    int slack;
    int joint;
    int options;
    final List<Node> nodes = new ArrayList<>();
    final List<Plug> plugs = new ArrayList<>();
    final List<Net> nets = new ArrayList<>();
    final List<Build> builds = new ArrayList<>();
    final Map<String, Integer> names = new LinkedHashMap<>();
    private final Deque<int[]> undo = new ArrayDeque<>();

    // ---- the tree

    List<Integer> way(int a, int b) {
        Map<Integer, Integer> cameFrom = new HashMap<>();
        Deque<Integer> open = new ArrayDeque<>();
        open.add(b);
        cameFrom.put(b, b);
        while (!open.isEmpty()) {
            int at = open.remove();
            for (int i = 0; i < nodes.size(); i++) {
                boolean joined = nodes.get(i).off == at || nodes.get(at).off == i;
                if (joined && !cameFrom.containsKey(i)) {
                    cameFrom.put(i, at);
                    open.add(i);
                }
            }
        }
        List<Integer> row = new ArrayList<>();
        int at = a;
        row.add(at);
        while (at != b) {
            at = cameFrom.get(at);
            row.add(at);
        }
        return row;
    }

    /** The bundles on the way, by their nodes. */
    List<Integer> bundlesBetween(int a, int b) {
        List<Integer> row = way(a, b);
        List<Integer> bundles = new ArrayList<>();
        for (int i = 1; i < row.size(); i++) {
            int one = row.get(i - 1);
            int other = row.get(i);
            bundles.add(nodes.get(one).off == other ? one : other);
        }
        return bundles;
    }

    int far(int a, int b) {
        int all = 0;
        for (int bundle : bundlesBetween(a, b)) {
            all += nodes.get(bundle).length;
        }
        return all;
    }

    int[] place(int i) {
        if (i == 0) {
            return new int[] {0, 0};
        }
        Node node = nodes.get(i);
        int[] place = place(node.off);
        switch (node.side) {
            case 0: place[1] += node.length; break;
            case 1: place[0] += node.length; break;
            case 2: place[1] -= node.length; break;
            default: place[0] -= node.length; break;
        }
        return place;
    }

    Set<String> pointsOf(int bundle) {
        int[] end = place(bundle);
        int[] at = place(nodes.get(bundle).off);
        Set<String> points = new HashSet<>();
        points.add(Arrays.toString(at));
        while (!Arrays.equals(at, end)) {
            at[0] += Integer.signum(end[0] - at[0]);
            at[1] += Integer.signum(end[1] - at[1]);
            points.add(Arrays.toString(at));
        }
        return points;
    }

    boolean meet(int a, int b) {
        Set<String> both = pointsOf(a);
        both.retainAll(pointsOf(b));
        Set<Integer> ends = new HashSet<>(Arrays.asList(a, nodes.get(a).off));
        ends.retainAll(Arrays.asList(b, nodes.get(b).off));
        for (int end : ends) {
            both.remove(Arrays.toString(place(end)));
        }
        return !both.isEmpty();
    }

    // ---- variants

    static boolean there(int option, int with, int variant) {
        if (option < 0) {
            return true;
        }
        boolean taken = variant / (1 << option) % 2 == 1;
        return with == 1 ? taken : !taken;
    }

    List<Integer> pins(int variant, int net) {
        Net told = nets.get(net);
        List<Integer> row = new ArrayList<>();
        for (int k = 0; k < told.pins.size(); k++) {
            Plug plug = plugs.get(told.pins.get(k).plug);
            if (there(told.option, told.with, variant) && there(plug.option, plug.with, variant)) {
                row.add(k);
            }
        }
        return row;
    }

    int nodeOf(int net, int k) {
        return plugs.get(nets.get(net).pins.get(k).plug).node;
    }

    int reach(int net, List<Integer> pins, int node) {
        return pins.stream().mapToInt(k -> far(node, nodeOf(net, k))).sum();
    }

    int splice(int net, List<Integer> pins) {
        if (pins.size() < 3) {
            return -2;
        }
        if (nets.get(net).hand >= 0) {
            return nets.get(net).hand;
        }
        int best = 0;
        for (int node = 1; node < nodes.size(); node++) {
            if (reach(net, pins, node) < reach(net, pins, best)) {
                best = node;
            }
        }
        return best;
    }

    List<Wire> wires(int net, List<Integer> pins) {
        List<Wire> all = new ArrayList<>();
        if (pins.size() == 2) {
            Wire wire = new Wire();
            wire.pins.addAll(pins);
            wire.from = nodeOf(net, pins.get(0));
            wire.to = nodeOf(net, pins.get(1));
            wire.length = far(wire.from, wire.to) + slack + slack;
            all.add(wire);
        } else if (pins.size() > 2) {
            for (int k : pins) {
                Wire wire = new Wire();
                wire.pins.add(k);
                wire.from = splice(net, pins);
                wire.to = nodeOf(net, k);
                wire.length = far(wire.from, wire.to) + slack + joint;
                all.add(wire);
            }
        }
        return all;
    }

    int lengths(int net, List<Integer> pins) {
        return wires(net, pins).stream().mapToInt(wire -> wire.length).sum();
    }

    /** By net: how many of its wires run through a bundle. */
    int[] runs(int variant, int bundle) {
        int[] runs = new int[nets.size()];
        for (int net = 0; net < nets.size(); net++) {
            for (Wire wire : wires(net, pins(variant, net))) {
                runs[net] += bundlesBetween(wire.from, wire.to).contains(bundle) ? 1 : 0;
            }
        }
        return runs;
    }

    int body(int variant, int bundle) {
        int[] runs = runs(variant, bundle);
        int body = 0;
        for (int net = 0; net < nets.size(); net++) {
            body += runs[net] * nets.get(net).gauge * nets.get(net).gauge;
        }
        return body;
    }

    static int round(int body) {
        int round = 0;
        while (5L * round * round < 6L * body) {
            round++;
        }
        return round;
    }

    // ---- flaws

    private boolean hasPin(int variant, int net, int plug, int cavity) {
        for (int k : pins(variant, net)) {
            Pin pin = nets.get(net).pins.get(k);
            if (pin.plug == plug && pin.cavity == cavity) {
                return true;
            }
        }
        return false;
    }

    List<int[]> flaws(int variant) {
        List<int[]> all = new ArrayList<>();
        for (int net = 0; net < nets.size(); net++) {
            Net told = nets.get(net);
            List<Integer> pins = pins(variant, net);
            if (pins.size() == 1) {
                Pin pin = told.pins.get(pins.get(0));
                all.add(new int[] {1, net, -2, pin.plug, pin.cavity});
            }
            for (int k : pins) {
                Pin pin = told.pins.get(k);
                Plug plug = plugs.get(pin.plug);
                if (told.gauge < plug.from || told.gauge > plug.to) {
                    all.add(new int[] {2, net, -2, pin.plug, pin.cavity});
                }
                int clash = -1;
                int beside = -1;
                for (int other = nets.size() - 1; other >= 0; other--) {
                    if (other < net && hasPin(variant, other, pin.plug, pin.cavity)) {
                        clash = other;
                    }
                    boolean foes = told.kind + nets.get(other).kind == 1;
                    if (foes && (hasPin(variant, other, pin.plug, pin.cavity + 1)
                        || hasPin(variant, other, pin.plug, pin.cavity - 1))) {
                        beside = other;
                    }
                }
                if (clash >= 0) {
                    all.add(new int[] {3, net, clash, pin.plug, pin.cavity});
                }
                if (beside >= 0) {
                    all.add(new int[] {4, net, beside, pin.plug, pin.cavity});
                }
            }
        }
        return all;
    }

    // ---- builds

    int variantOf(int build) {
        return builds.get(build).options.stream().mapToInt(option -> 1 << option).sum();
    }

    List<Integer> commonPins(Set<Integer> some, int net) {
        Set<Integer> all = new TreeSet<>();
        for (int build : some) {
            List<Integer> pins = pins(variantOf(build), net);
            if (pins.size() >= 2) {
                all.addAll(pins);
            }
        }
        return new ArrayList<>(all);
    }

    int common(Set<Integer> some) {
        int all = 0;
        for (int net = 0; net < nets.size(); net++) {
            all += lengths(net, commonPins(some, net));
        }
        return all;
    }

    int given(Set<Integer> some) {
        int all = 0;
        for (int build : some) {
            all += builds.get(build).harnesses * (common(some) - common(Set.of(build)));
        }
        return all;
    }

    /** What the best row of groups needs, and the row. */
    int[] families(int k) {
        int[] best = null;
        Map<Set<Integer>, Integer> known = new HashMap<>();
        int rows = 1;
        for (int i = 0; i < builds.size(); i++) {
            rows *= k;
        }
        for (int code = 0; code < rows; code++) {
            int[] row = new int[builds.size() + 1];
            List<Set<Integer>> groups = new ArrayList<>();
            for (int i = 0; i < k; i++) {
                groups.add(new TreeSet<>());
            }
            int left = code;
            for (int build = 0; build < builds.size(); build++) {
                row[build + 1] = left % k;
                left /= k;
                groups.get(row[build + 1]).add(build);
            }
            for (Set<Integer> group : groups) {
                row[0] += known.computeIfAbsent(group, this::need);
            }
            number(row);
            if (best == null || Arrays.compare(row, best) < 0) {
                best = row;
            }
        }
        return best;
    }

    private int need(Set<Integer> group) {
        return common(group) * group.stream().mapToInt(build -> builds.get(build).harnesses).sum();
    }

    /** Numbers the groups of a row (behind its first) as they come first. */
    private static void number(int[] row) {
        Map<Integer, Integer> numbers = new HashMap<>();
        for (int i = 1; i < row.length; i++) {
            numbers.putIfAbsent(row[i], numbers.size());
            row[i] = numbers.get(row[i]);
        }
    }

    List<Integer> unused() {
        List<Integer> row = new ArrayList<>();
        for (int net = 0; net < nets.size(); net++) {
            boolean used = false;
            for (int build = 0; build < builds.size(); build++) {
                used |= !wires(net, pins(variantOf(build), net)).isEmpty();
            }
            if (!used) {
                row.add(net);
            }
        }
        return row;
    }

    // ---- acts

    int splices(int net, int node) {
        int before = nets.get(net).hand;
        keep(0, net, before);
        nets.get(net).hand = node == -1 ? -2 : node;
        return before;
    }

    int stretch(int node, int length) {
        int before = nodes.get(node).length;
        keep(1, node, before);
        nodes.get(node).length = length;
        return before;
    }

    private void keep(int sort, int which, int before) {
        undo.addLast(new int[] {sort, which, before});
        if (undo.size() > 10) {
            undo.removeFirst();
        }
    }

    boolean undo() {
        if (undo.isEmpty()) {
            return false;
        }
        int[] act = undo.removeLast();
        if (act[0] == 0) {
            nets.get(act[1]).hand = act[2];
        } else {
            nodes.get(act[1]).length = act[2];
        }
        return true;
    }

    int undoable() {
        return undo.size();
    }
}
