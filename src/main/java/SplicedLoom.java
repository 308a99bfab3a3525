import java.util.Arrays;
import java.util.NoSuchElementException;

/** A wire harness on a board, told as a text; ../shared/DOC.md says what each call answers. */
public final class SplicedLoom {
    public static final int NONE = -1;

    private static final int WITHOUT = -2;
    private static final int NOWHERE = -2147483648;
    private static final int GREATEST = 2147483647;

    private static final int NO_TROUBLE = 0;
    private static final int NONE_SUCH = 1;
    private static final int BAD_NUMBER = 2;
    private static final int FAULTY = 4;
    private static final int NOT_SO = 5;

    private static final int TAPE_ROOM = 1000;
    private static final int FEED_BYTES = 20;
    private static final int MAX_NODES = 14;
    private static final int MAX_OPTIONS = 4;
    private static final int MAX_PLUGS = 8;
    private static final int MAX_HOLES = 12;
    private static final int MAX_NETS = 10;
    private static final int MAX_PINS = 5;
    private static final int MAX_BUILDS = 5;
    private static final int MAX_GAUGE = 9;
    private static final int MAX_LENGTH = 999;
    private static final int MAX_ACTS = 10;
    private static final int MAX_NAMES = MAX_NODES + MAX_OPTIONS + MAX_PLUGS + MAX_NETS;

    /** What stands ahead of a number in the meaning of a NAME, a hundred of numbers for each sort. */
    private static final int NODE_NAMES = 0;
    private static final int OPTION_NAMES = 100;
    private static final int PLUG_NAMES = 200;
    private static final int NET_NAMES = 300;
    private static final int NAMES_OF_A_SORT = 100;

    private static final int POWER = 0;
    private static final int SIGNAL = 1;
    private static final int GROUND = 2;

    /** By SIDE (up, right, down, left): which way x and y go. */
    private static final int[] SIDE_X = {0, 1, 0, -1};
    private static final int[] SIDE_Y = {1, 0, -1, 0};

    private final byte[] tape;
    private int tapeSize;
    private Harness now;
    private Harness spare;
    private boolean hasHarness;
    private final Tokens tokens;
    private final Acts acts;
    private final FlawRows flawRows;
    private final Families parting;
    private int lastTrouble;
    private int lastFault;
    private int lastPlace;

    public SplicedLoom() {
        tape = new byte[TAPE_ROOM];
        now = new Harness();
        spare = new Harness();
        tokens = new Tokens();
        acts = new Acts();
        flawRows = new FlawRows();
        parting = new Families();
    }

    // ---- the harness

    public int feed(int a, int b, int c, int d, int e) {
        if (tapeSize > TAPE_ROOM - FEED_BYTES) {
            return NONE;
        }
        putBytes(a);
        putBytes(b);
        putBytes(c);
        putBytes(d);
        putBytes(e);
        return tapeSize;
    }

    public int harness(int n) {
        if (n < 0 || n > tapeSize) {
            return refuse(BAD_NUMBER);
        }
        tapeSize = 0;
        spare.clear();
        tokens.cut(tape, n);
        Reader reader = new Reader(tokens, spare);
        boolean good = reader.readAll();
        lastFault = good ? 0 : reader.fault;
        lastPlace = good ? NONE : reader.placeOfFault();
        if (!good) {
            return refuse(FAULTY);
        }
        takeSpare();
        return answer(now.nets.count);
    }

    public int fault() {
        return lastFault;
    }

    public int where() {
        return lastTrouble == FAULTY ? lastPlace : NONE;
    }

    public int about(int what) {
        if (!hasHarness) {
            return refuse(NONE_SUCH);
        }
        switch (what) {
            case 0: return answer(now.slack);
            case 1: return answer(now.joint);
            case 2: return answer(now.tree.count);
            case 3: return answer(now.options);
            case 4: return answer(now.plugs.count);
            case 5: return answer(now.nets.count);
            case 6: return answer(now.builds.count);
            default: return refuse(NONE_SUCH);
        }
    }

    public int named(long name) {
        int meaning = now.meaningOf(name);
        return meaning < 0 ? refuse(NONE_SUCH) : answer(meaning);
    }

    // ---- the tree: 1 (no such NODE)

    public int node(int i, int what) {
        if (!isNode(i)) {
            return refuse(NONE_SUCH);
        }
        switch (what) {
            case 0: return answer(now.tree.up[i]);
            case 1: return answer(now.tree.length[i]);
            case 2: return answer(now.tree.countOff(i));
            default: return refuse(NONE_SUCH);
        }
    }

    public int far(int a, int b) {
        if (!isNode(a) || !isNode(b)) {
            return refuse(NONE_SUCH);
        }
        return answer(now.tree.apart[a][b]);
    }

    public int way(int a, int b, int k) {
        if (!isNode(a) || !isNode(b)) {
            return refuse(NONE_SUCH);
        }
        int node = now.tree.onTheWay(a, b, k);
        return node < 0 ? refuse(NONE_SUCH) : answer(node);
    }

    public int side(int i) {
        return isBundle(i) ? answer(now.tree.side[i]) : refuse(NONE_SUCH);
    }

    public int place(int i, int what) {
        if (!isNode(i) || what < 0 || what > 1) {
            return refuseNumber(NONE_SUCH);
        }
        return answer(what == 0 ? now.tree.x[i] : now.tree.y[i]);
    }

    public int meet(int a, int b) {
        if (!isBundle(a) || !isBundle(b) || a == b) {
            return refuse(NONE_SUCH);
        }
        return answer(now.tree.crosses(a, b) ? 1 : 0);
    }

    public int meetings() {
        return hasHarness ? answer(now.tree.countCrossings()) : refuse(NONE_SUCH);
    }

    public int lying(int x, int y) {
        return hasHarness ? answer(now.tree.bundlesOn(x, y)) : refuse(NONE_SUCH);
    }

    public int extent(int what) {
        if (!hasHarness) {
            return refuseNumber(NONE_SUCH);
        }
        Tree tree = now.tree;
        switch (what) {
            case 0: return answer(tree.leastOf(tree.x));
            case 1: return answer(tree.greatestOf(tree.x));
            case 2: return answer(tree.leastOf(tree.y));
            case 3: return answer(tree.greatestOf(tree.y));
            default: return refuseNumber(NONE_SUCH);
        }
    }

    public int span() {
        return hasHarness ? answer(now.tree.greatestApart()) : refuse(NONE_SUCH);
    }

    // ---- plugs, nets, as told: 1 (no such PLUG, NET, PIN, what)

    public int plug(int i, int what) {
        if (!isPlug(i)) {
            return refuse(NONE_SUCH);
        }
        Plugs plugs = now.plugs;
        switch (what) {
            case 0: return answer(plugs.node[i]);
            case 1: return answer(plugs.holes[i]);
            case 2: return answer(plugs.from[i]);
            case 3: return answer(plugs.to[i]);
            case 4: return answer(plugs.whenOption[i]);
            case 5: return answer(plugs.whenWith[i]);
            default: return refuse(NONE_SUCH);
        }
    }

    public int net(int i, int what) {
        if (!isNet(i)) {
            return refuse(NONE_SUCH);
        }
        Nets nets = now.nets;
        switch (what) {
            case 0: return answer(nets.kind[i]);
            case 1: return answer(nets.gauge[i]);
            case 2: return answer(nets.pins[i]);
            case 3: return answer(nets.whenOption[i]);
            case 4: return answer(nets.whenWith[i]);
            case 5: return answer(nets.hand[i]);
            default: return refuse(NONE_SUCH);
        }
    }

    public int pin(int i, int k, int what) {
        if (!isPin(i, k) || what < 0 || what > 1) {
            return refuse(NONE_SUCH);
        }
        return answer(what == 0 ? now.nets.plug[i][k] : now.nets.cavity[i][k]);
    }

    // ---- variants: 1 (no such NET, PIN, BUNDLE, what); 2 (no such VARIANT)

    public int plugs(int variant) {
        int trouble = troubleOf(hasHarness, variant);
        return trouble != NO_TROUBLE ? refuse(trouble) : answer(Wires.plugsThere(now, variant));
    }

    public int pins(int variant, int net) {
        int trouble = troubleOf(isNet(net), variant);
        return trouble != NO_TROUBLE ? refuse(trouble) : answer(Wires.pinsThere(now, variant, net));
    }

    public int splice(int variant, int net) {
        int trouble = troubleOf(isNet(net), variant);
        if (trouble != NO_TROUBLE) {
            return refuse(trouble);
        }
        int pins = Wires.pinsThere(now, variant, net);
        return answer(Wires.needsSplice(pins) ? Wires.hubOf(now, net, pins) : WITHOUT);
    }

    public int wires(int variant, int net) {
        int trouble = troubleOf(isNet(net), variant);
        if (trouble != NO_TROUBLE) {
            return refuse(trouble);
        }
        return answer(Wires.countFor(Wires.pinsThere(now, variant, net)));
    }

    public int wire(int variant, int net, int k) {
        int trouble = troubleOf(isPin(net, k), variant);
        if (trouble != NO_TROUBLE) {
            return refuse(trouble);
        }
        int pins = Wires.pinsThere(now, variant, net);
        if (!Wires.has(pins, k) || Wires.countFor(pins) == 0) {
            return refuse(NOT_SO);
        }
        return answer(Wires.lengthTo(now, net, pins, k));
    }

    public int reach(int variant, int net, int node) {
        int trouble = troubleOf(isNet(net) && isNode(node), variant);
        if (trouble != NO_TROUBLE) {
            return refuse(trouble);
        }
        return answer(Wires.reachOf(now, net, Wires.pinsThere(now, variant, net), node));
    }

    public int total(int variant, int gauge) {
        int trouble = troubleOf(hasHarness && gauge >= 0 && gauge <= MAX_GAUGE, variant);
        return trouble != NO_TROUBLE ? refuse(trouble) : answer(Wires.lengthOfGauge(now, variant, gauge));
    }

    public int bundle(int variant, int node, int what) {
        int trouble = troubleOf(isBundle(node) && what >= 0 && what <= 2, variant);
        if (trouble != NO_TROUBLE) {
            return refuse(trouble);
        }
        if (what == 0) {
            return answer(Wires.countThrough(now, variant, node));
        }
        int body = Wires.bodyThrough(now, variant, node);
        return answer(what == 1 ? body : Wires.roundOf(body));
    }

    public int thickest(int variant) {
        int trouble = troubleOf(hasHarness, variant);
        return trouble != NO_TROUBLE ? refuse(trouble) : answer(Wires.thickestOf(now, variant));
    }

    public int through(int variant, int node) {
        int trouble = troubleOf(isBundle(node), variant);
        return trouble != NO_TROUBLE ? refuse(trouble) : answer(Wires.netsThrough(now, variant, node));
    }

    // ---- flaws

    public int flaws(int variant) {
        int trouble = troubleOf(hasHarness, variant);
        return trouble != NO_TROUBLE ? refuse(trouble) : answer(flawRows.list(now, variant));
    }

    public int flaw(int variant, int i, int what) {
        int trouble = troubleOf(hasHarness && what >= 0 && what < FlawRows.PARTS, variant);
        if (trouble != NO_TROUBLE) {
            return refuse(trouble);
        }
        int count = flawRows.list(now, variant);
        if (i < 0 || i >= count) {
            return refuse(NONE_SUCH);
        }
        return answer(flawRows.partOf(i, what));
    }

    public int sound() {
        if (!hasHarness) {
            return refuse(NONE_SUCH);
        }
        int good = 0;
        for (int variant = 0; variant < 1 << now.options; variant++) {
            if (flawRows.list(now, variant) == 0) {
                good |= 1 << variant;
            }
        }
        return answer(good);
    }

    public int flawed() {
        if (!hasHarness) {
            return refuse(NONE_SUCH);
        }
        int all = 0;
        for (int build = 0; build < now.builds.count; build++) {
            all += flawRows.list(now, now.builds.variant[build]);
        }
        return answer(all);
    }

    // ---- builds

    public int build(int i, int what) {
        if (!isBuild(i) || what < 0 || what > 1) {
            return refuse(NONE_SUCH);
        }
        return answer(what == 0 ? now.builds.variant[i] : now.builds.harnesses[i]);
    }

    public int common(int builds) {
        int trouble = troubleOfBuilds(hasHarness, builds);
        return trouble != NO_TROUBLE ? refuse(trouble) : answer(Families.lengthFor(now, builds));
    }

    public int commonPins(int builds, int net) {
        int trouble = troubleOfBuilds(isNet(net), builds);
        return trouble != NO_TROUBLE ? refuse(trouble) : answer(Families.pinsFor(now, builds, net));
    }

    public int given(int builds) {
        int trouble = troubleOfBuilds(hasHarness, builds);
        return trouble != NO_TROUBLE ? refuseNumber(trouble) : answer(Families.givenBy(now, builds));
    }

    public int families(int k) {
        int trouble = troubleOfFamilies(k);
        if (trouble != NO_TROUBLE) {
            return refuse(trouble);
        }
        parting.find(now, k);
        return answer(parting.least);
    }

    public int groups(int k) {
        int trouble = troubleOfFamilies(k);
        if (trouble != NO_TROUBLE) {
            return refuse(trouble);
        }
        parting.find(now, k);
        return answer(parting.countBest(now.builds.count));
    }

    public int group(int k, int build) {
        if (!isBuild(build)) {
            return refuse(NONE_SUCH);
        }
        if (!isFamilyCount(k)) {
            return refuse(BAD_NUMBER);
        }
        parting.find(now, k);
        return answer(parting.best[build]);
    }

    // ---- acts

    public int splices(int net, int node) {
        if (!isNet(net)) {
            return refuse(NONE_SUCH);
        }
        if (node != NONE && !isNode(node)) {
            return refuse(BAD_NUMBER);
        }
        int before = now.nets.hand[net];
        acts.keep(Acts.SPLICE, net, before);
        now.nets.hand[net] = node == NONE ? WITHOUT : node;
        return answer(before);
    }

    public int stretch(int node, int length) {
        if (!isBundle(node)) {
            return refuse(NONE_SUCH);
        }
        if (length < 1 || length > MAX_LENGTH) {
            return refuse(BAD_NUMBER);
        }
        int before = now.tree.length[node];
        acts.keep(Acts.LENGTH, node, before);
        now.tree.setLength(node, length);
        return answer(before);
    }

    public boolean undo() {
        if (acts.count < 1) {
            refuse(NONE_SUCH);
            return false;
        }
        acts.count--;
        int which = acts.which[acts.count];
        int before = acts.before[acts.count];
        if (acts.sort[acts.count] == Acts.LENGTH) {
            now.tree.setLength(which, before);
        } else {
            now.nets.hand[which] = before;
        }
        lastTrouble = NO_TROUBLE;
        return true;
    }

    // ---- what is told

    public int unused(int i) throws NoSuchElementException {
        int seen = 0;
        for (int net = 0; net < now.nets.count; net++) {
            if (!Families.isUsed(now, net)) {
                if (seen == i) {
                    return net;
                }
                seen++;
            }
        }
        throw new NoSuchElementException("no such unused net");
    }

    public int size(int what) {
        switch (what) {
            case 0: return tapeSize;
            case 1: return acts.count;
            case 2: return now.nets.countByHand();
            default: return NONE;
        }
    }

    public int trouble() {
        return lastTrouble;
    }

    // ---- helpers of the calls above

    private int answer(int value) {
        lastTrouble = NO_TROUBLE;
        return value;
    }

    private int refuse(int number) {
        lastTrouble = number;
        return NONE;
    }

    private int refuseNumber(int number) {
        lastTrouble = number;
        return NOWHERE;
    }

    private void putBytes(int number) {
        for (int shift = 24; shift >= 0; shift -= 8) {
            if (tapeSize < TAPE_ROOM) {
                tape[tapeSize] = (byte) (number >> shift);
                tapeSize++;
            }
        }
    }

    private void takeSpare() {
        Harness old = now;
        now = spare;
        spare = old;
        now.tree.measure();
        hasHarness = true;
        acts.count = 0;
    }

    private boolean isNode(int i) {
        return i >= 0 && i < now.tree.count;
    }

    private boolean isBundle(int i) {
        return i > 0 && isNode(i);
    }

    private boolean isPlug(int i) {
        return i >= 0 && i < now.plugs.count;
    }

    private boolean isNet(int i) {
        return i >= 0 && i < now.nets.count;
    }

    private boolean isPin(int net, int k) {
        return isNet(net) && k >= 0 && k < now.nets.pins[net];
    }

    private boolean isBuild(int i) {
        return i >= 0 && i < now.builds.count;
    }

    private boolean isFamilyCount(int k) {
        return k >= 1 && k <= MAX_BUILDS;
    }

    private int troubleOf(boolean isThere, int variant) {
        if (!isThere) {
            return NONE_SUCH;
        }
        return variant < 0 || variant >= 1 << now.options ? BAD_NUMBER : NO_TROUBLE;
    }

    private int troubleOfBuilds(boolean isThere, int builds) {
        if (!isThere) {
            return NONE_SUCH;
        }
        return builds < 1 || builds >= 1 << now.builds.count ? BAD_NUMBER : NO_TROUBLE;
    }

    private int troubleOfFamilies(int k) {
        if (!hasHarness) {
            return NONE_SUCH;
        }
        if (!isFamilyCount(k)) {
            return BAD_NUMBER;
        }
        return now.builds.count == 0 ? NOT_SO : NO_TROUBLE;
    }

    /** The NODES and the BUNDLES: a NODE is always off one of a lesser number. */
    private static final class Tree {
        int count;
        final int[] up = new int[MAX_NODES];
        final int[] length = new int[MAX_NODES];
        final int[] side = new int[MAX_NODES];
        final int[] x = new int[MAX_NODES];
        final int[] y = new int[MAX_NODES];
        /** By NODE: it and all beyond it, as bits; its BUNDLE parts them from all others. */
        final int[] beyond = new int[MAX_NODES];
        final int[][] apart = new int[MAX_NODES][MAX_NODES];

        void add(int off, int toSide, int newLength) {
            if (count < MAX_NODES) {
                up[count] = off;
                side[count] = toSide;
                length[count] = newLength;
                count++;
            }
        }

        void setLength(int node, int newLength) {
            length[node] = newLength;
            measure();
        }

        void measure() {
            for (int i = 0; i < count; i++) {
                beyond[i] = 1 << i;
                apart[i][i] = 0;
                if (i == 0) {
                    x[i] = 0;
                    y[i] = 0;
                } else {
                    measureFrom(i, up[i]);
                }
            }
            for (int i = count - 1; i > 0; i--) {
                beyond[up[i]] |= beyond[i];
            }
        }

        private void measureFrom(int i, int off) {
            x[i] = x[off] + SIDE_X[side[i]] * length[i];
            y[i] = y[off] + SIDE_Y[side[i]] * length[i];
            for (int j = 0; j < i; j++) {
                apart[i][j] = apart[off][j] + length[i];
                apart[j][i] = apart[i][j];
            }
        }

        int countOff(int node) {
            int off = 0;
            for (int i = 1; i < count; i++) {
                if (up[i] == node) {
                    off++;
                }
            }
            return off;
        }

        boolean isBeyond(int node, int other) {
            return (beyond[node] >> other & 1) == 1;
        }

        boolean parts(int node, int a, int b) {
            return isBeyond(node, a) != isBeyond(node, b);
        }

        int onTheWay(int a, int b, int k) {
            if (k < 0 || k >= count) {
                return NONE;
            }
            int at = a;
            for (int step = 0; step < k; step++) {
                if (at == b) {
                    return NONE;
                }
                at = nextTowards(at, b);
            }
            return at;
        }

        private int nextTowards(int at, int b) {
            for (int i = at + 1; i < count; i++) {
                if (up[i] == at && isBeyond(i, b)) {
                    return i;
                }
            }
            return at > 0 ? up[at] : at;
        }

        boolean crosses(int a, int b) {
            int wide = overlap(x[a], x[up[a]], x[b], x[up[b]]);
            int high = overlap(y[a], y[up[a]], y[b], y[up[b]]);
            int points = wide * high;
            return endTogether(a, b) ? points > 1 : points > 0;
        }

        private boolean endTogether(int a, int b) {
            return up[a] == up[b] || up[a] == b || up[b] == a;
        }

        private static int overlap(int a, int b, int c, int d) {
            int low = Math.max(Math.min(a, b), Math.min(c, d));
            int high = Math.min(Math.max(a, b), Math.max(c, d));
            return high < low ? 0 : high - low + 1;
        }

        int countCrossings() {
            int all = 0;
            for (int a = 1; a < count; a++) {
                for (int b = a + 1; b < count; b++) {
                    if (crosses(a, b)) {
                        all++;
                    }
                }
            }
            return all;
        }

        int bundlesOn(int px, int py) {
            int bits = 0;
            for (int i = 1; i < count; i++) {
                if (overlap(x[i], x[up[i]], px, px) > 0 && overlap(y[i], y[up[i]], py, py) > 0) {
                    bits |= 1 << i;
                }
            }
            return bits;
        }

        int leastOf(int[] row) {
            int least = 0;
            for (int i = 0; i < count; i++) {
                least = Math.min(least, row[i]);
            }
            return least;
        }

        int greatestOf(int[] row) {
            int greatest = 0;
            for (int i = 0; i < count; i++) {
                greatest = Math.max(greatest, row[i]);
            }
            return greatest;
        }

        int greatestApart() {
            int greatest = 0;
            for (int i = 0; i < count; i++) {
                greatest = Math.max(greatest, greatestOf(apart[i]));
            }
            return greatest;
        }
    }

    private static final class Plugs {
        int count;
        final int[] node = new int[MAX_PLUGS];
        final int[] holes = new int[MAX_PLUGS];
        final int[] from = new int[MAX_PLUGS];
        final int[] to = new int[MAX_PLUGS];
        final int[] whenOption = new int[MAX_PLUGS];
        final int[] whenWith = new int[MAX_PLUGS];

        void add(int onNode, int cavities, int fromGauge, int toGauge, int option, int with) {
            if (count < MAX_PLUGS) {
                node[count] = onNode;
                holes[count] = cavities;
                from[count] = fromGauge;
                to[count] = toGauge;
                whenOption[count] = option;
                whenWith[count] = with;
                count++;
            }
        }
    }

    private static final class Nets {
        int count;
        final int[] kind = new int[MAX_NETS];
        final int[] gauge = new int[MAX_NETS];
        final int[] pins = new int[MAX_NETS];
        final int[] whenOption = new int[MAX_NETS];
        final int[] whenWith = new int[MAX_NETS];
        final int[] hand = new int[MAX_NETS];
        final int[][] plug = new int[MAX_NETS][MAX_PINS];
        final int[][] cavity = new int[MAX_NETS][MAX_PINS];
        /** By PIN: the NODE of its PLUG. */
        final int[][] node = new int[MAX_NETS][MAX_PINS];

        void add(int ofKind, int ofGauge, int option, int with) {
            if (count < MAX_NETS) {
                kind[count] = ofKind;
                gauge[count] = ofGauge;
                pins[count] = 0;
                whenOption[count] = option;
                whenWith[count] = with;
                hand[count] = WITHOUT;
                count++;
            }
        }

        void addPin(int net, int atPlug, int atCavity, int onNode) {
            int k = pins[net];
            if (k < MAX_PINS) {
                plug[net][k] = atPlug;
                cavity[net][k] = atCavity;
                node[net][k] = onNode;
                pins[net] = k + 1;
            }
        }

        /** Whether one of these PINS (bits) of a NET is there. */
        boolean hasPinAt(int net, int bits, int atPlug, int atCavity) {
            for (int k = 0; k < pins[net]; k++) {
                if (Wires.has(bits, k) && plug[net][k] == atPlug && cavity[net][k] == atCavity) {
                    return true;
                }
            }
            return false;
        }

        int countByHand() {
            int all = 0;
            for (int net = 0; net < count; net++) {
                if (hand[net] != WITHOUT) {
                    all++;
                }
            }
            return all;
        }
    }

    private static final class Builds {
        int count;
        final int[] variant = new int[MAX_BUILDS];
        final int[] harnesses = new int[MAX_BUILDS];

        void add(int ofVariant, int many) {
            if (count < MAX_BUILDS) {
                variant[count] = ofVariant;
                harnesses[count] = many;
                count++;
            }
        }

        boolean hasVariant(int ofVariant) {
            for (int i = 0; i < count; i++) {
                if (variant[i] == ofVariant) {
                    return true;
                }
            }
            return false;
        }
    }

    /** A HARNESS, or, with all counts 0, that there is none. */
    private static final class Harness {
        int slack;
        int joint;
        int options;
        private int names;
        private final long[] nameWord = new long[MAX_NAMES];
        private final int[] nameMeaning = new int[MAX_NAMES];
        final Tree tree = new Tree();
        final Plugs plugs = new Plugs();
        final Nets nets = new Nets();
        final Builds builds = new Builds();

        void clear() {
            slack = 0;
            joint = 0;
            options = 0;
            names = 0;
            tree.count = 0;
            plugs.count = 0;
            nets.count = 0;
            builds.count = 0;
        }

        void addName(long word, int meaning) {
            if (names < MAX_NAMES) {
                nameWord[names] = word;
                nameMeaning[names] = meaning;
                names++;
            }
        }

        int meaningOf(long word) {
            for (int i = 0; i < names; i++) {
                if (nameWord[i] == word) {
                    return nameMeaning[i];
                }
            }
            return NONE;
        }
    }

    /** The TOKENS of a text; what begins none is one of the kind NO_TOKEN. */
    private static final class Tokens {
        static final int NO_TOKEN = 0;
        static final int WORD = 1;
        static final int RESERVED = 2;
        static final int WHOLE = 3;
        static final int COMMA = 4;
        static final int SEMICOLON = 5;
        static final int END = 6;

        private static final int MAX_LETTERS = 7;
        private static final int MAX_DIGITS = 3;

        private int count;
        private int end;
        private final int[] kind = new int[TAPE_ROOM];
        private final int[] place = new int[TAPE_ROOM];
        private final long[] value = new long[TAPE_ROOM];

        int kindOf(int i) {
            return i >= 0 && i < count ? kind[i] : END;
        }

        int placeOf(int i) {
            return i >= 0 && i < count ? place[i] : end;
        }

        /** Of a WORD its letters as bytes, of a WHOLE what it says. */
        long valueOf(int i) {
            return i >= 0 && i < count ? value[i] : 0;
        }

        void cut(byte[] text, int size) {
            count = 0;
            end = Math.min(size, text.length);
            int at = 0;
            for (int turn = 0; turn < TAPE_ROOM && at < end; turn++) {
                int first = text[at];
                if (first == ' ') {
                    at++;
                } else if (isLetter(first)) {
                    at = cutLetters(text, at);
                } else if (isDigit(first)) {
                    at = cutDigits(text, at);
                } else {
                    add(first == ',' ? COMMA : first == ';' ? SEMICOLON : NO_TOKEN, at, 0);
                    at++;
                }
            }
        }

        private int cutLetters(byte[] text, int start) {
            long word = 0;
            int at = start;
            while (at < end && isLetter(text[at])) {
                word = word << 8 | text[at];
                at++;
            }
            add(at - start > MAX_LETTERS ? NO_TOKEN : isReserved(word) ? RESERVED : WORD, start, word);
            return at;
        }

        private int cutDigits(byte[] text, int start) {
            long whole = 0;
            int at = start;
            while (at < end && isDigit(text[at])) {
                whole = whole * 10 + text[at] - '0';
                at++;
            }
            add(at - start > MAX_DIGITS ? NO_TOKEN : WHOLE, start, whole);
            return at;
        }

        private void add(int ofKind, int atPlace, long ofValue) {
            if (count < TAPE_ROOM) {
                kind[count] = ofKind;
                place[count] = atPlace;
                value[count] = ofValue;
                count++;
            }
        }

        private static boolean isLetter(int sign) {
            return sign >= 'a' && sign <= 'z';
        }

        private static boolean isDigit(int sign) {
            return sign >= '0' && sign <= '9';
        }

        private static boolean isReserved(long word) {
            return word == packed("board") || word == packed("node") || word == packed("option")
                || word == packed("plug") || word == packed("net") || word == packed("build")
                || word == packed("off") || word == packed("with") || word == packed("without")
                || word == packed("of");
        }

        static long packed(String letters) {
            long word = 0;
            for (int i = 0; i < letters.length(); i++) {
                word = word << 8 | letters.charAt(i);
            }
            return word;
        }
    }

    /** Reads TOKENS into an empty HARNESS; a FAULT is always at the TOKEN at which reading stops. */
    private static final class Reader {
        private static final int FORM = 1;
        private static final int UNTOLD = 2;
        private static final int AGAIN = 3;
        private static final int BOUNDS = 4;
        private static final int MANY = 5;
        private static final int LACKS = 6;
        private static final int SAME = 7;

        private static final int MOST_EXTRA = 99;
        private static final int MOST_HARNESSES = 99;

        private final Tokens tokens;
        private final Harness into;
        private int at;
        private int whenOption;
        private int whenWith;
        private boolean boardTold;
        int fault;

        Reader(Tokens ofText, Harness empty) {
            tokens = ofText;
            into = empty;
        }

        boolean readAll() {
            // each LINE but the last one takes a TOKEN at least
            for (int lines = 0; lines <= TAPE_ROOM; lines++) {
                if (!readLine()) {
                    return false;
                }
                if (sees(Tokens.END)) {
                    return into.nets.count > 0 || fail(LACKS);
                }
                at++;
            }
            return fail(FORM);
        }

        int placeOfFault() {
            return tokens.placeOf(at);
        }

        private boolean fail(int number) {
            fault = number;
            return false;
        }

        private boolean sees(int kind) {
            return tokens.kindOf(at) == kind;
        }

        private boolean reads(String wanted) {
            int kind = tokens.kindOf(at);
            return (kind == Tokens.WORD || kind == Tokens.RESERVED) && tokens.valueOf(at) == Tokens.packed(wanted);
        }

        // parts of a LINE

        private boolean take(String wanted) {
            if (!reads(wanted)) {
                return fail(FORM);
            }
            at++;
            return true;
        }

        private int takeWhole(int least, int most) {
            if (!sees(Tokens.WHOLE)) {
                fail(FORM);
                return NONE;
            }
            int whole = (int) tokens.valueOf(at);
            if (whole < least || whole > most) {
                fail(BOUNDS);
                return NONE;
            }
            at++;
            return whole;
        }

        /** A NAME that is told here, 0 if there is a FAULT. */
        private long takeNewName() {
            if (!sees(Tokens.WORD)) {
                fail(FORM);
                return 0;
            }
            long word = tokens.valueOf(at);
            if (into.meaningOf(word) >= 0) {
                fail(AGAIN);
                return 0;
            }
            at++;
            return word;
        }

        private int takeNamed(int sort) {
            if (!sees(Tokens.WORD)) {
                fail(FORM);
                return NONE;
            }
            int meaning = into.meaningOf(tokens.valueOf(at));
            if (meaning < sort || meaning >= sort + NAMES_OF_A_SORT) {
                fail(UNTOLD);
                return NONE;
            }
            at++;
            return meaning - sort;
        }

        private int takeSide() {
            int side = reads("up") ? 0 : reads("right") ? 1 : reads("down") ? 2 : reads("left") ? 3 : NONE;
            return takeChoice(side);
        }

        private int takeKind() {
            int kind = reads("power") ? POWER : reads("signal") ? SIGNAL : reads("ground") ? GROUND : NONE;
            return takeChoice(kind);
        }

        private int takeChoice(int choice) {
            if (choice < 0) {
                fail(FORM);
            } else {
                at++;
            }
            return choice;
        }

        private boolean takeWhen() {
            whenOption = WITHOUT;
            whenWith = WITHOUT;
            boolean with = reads("with");
            if (!with && !reads("without")) {
                return true;
            }
            at++;
            whenOption = takeNamed(OPTION_NAMES);
            whenWith = with ? 1 : 0;
            return whenOption >= 0;
        }

        private boolean lineEnds() {
            return sees(Tokens.SEMICOLON) || sees(Tokens.END) || fail(FORM);
        }

        // LINES

        private boolean readLine() {
            if (reads("board")) {
                return boardTold ? fail(AGAIN) : readBoard();
            }
            if (reads("node")) {
                return opens(into.tree.count, MAX_NODES) && readNode();
            }
            if (reads("option")) {
                return opens(into.options, MAX_OPTIONS) && readOption();
            }
            if (reads("plug")) {
                return opens(into.plugs.count, MAX_PLUGS) && readPlug();
            }
            if (reads("net")) {
                return opens(into.nets.count, MAX_NETS) && readNet();
            }
            if (reads("build")) {
                return opens(into.builds.count, MAX_BUILDS) && readBuild();
            }
            return fail(FORM);
        }

        private boolean opens(int told, int room) {
            if (!boardTold) {
                return fail(LACKS);
            }
            if (told >= room) {
                return fail(MANY);
            }
            at++;
            return true;
        }

        private boolean readBoard() {
            at++;
            if (!take("slack")) {
                return false;
            }
            int slack = takeWhole(0, MOST_EXTRA);
            if (slack < 0 || !take("joint")) {
                return false;
            }
            int joint = takeWhole(0, MOST_EXTRA);
            if (joint < 0) {
                return false;
            }
            into.slack = slack;
            into.joint = joint;
            boardTold = true;
            return lineEnds();
        }

        private boolean readNode() {
            int number = into.tree.count;
            long name = takeNewName();
            if (name == 0) {
                return false;
            }
            if (number == 0) {
                into.tree.add(WITHOUT, 0, 0);
            } else if (!readBranch()) {
                return false;
            }
            // told only now, so that no NODE is off itself
            into.addName(name, NODE_NAMES + number);
            return lineEnds();
        }

        private boolean readBranch() {
            if (!take("off")) {
                return false;
            }
            int off = takeNamed(NODE_NAMES);
            if (off < 0) {
                return false;
            }
            int side = takeSide();
            if (side < 0 || !take("long")) {
                return false;
            }
            int length = takeWhole(1, MAX_LENGTH);
            if (length < 0) {
                return false;
            }
            into.tree.add(off, side, length);
            return true;
        }

        private boolean readOption() {
            long name = takeNewName();
            if (name == 0) {
                return false;
            }
            into.addName(name, OPTION_NAMES + into.options);
            into.options++;
            return lineEnds();
        }

        private boolean readPlug() {
            long name = takeNewName();
            if (name == 0 || !take("on")) {
                return false;
            }
            int node = takeNamed(NODE_NAMES);
            if (node < 0 || !take("holes")) {
                return false;
            }
            int holes = takeWhole(1, MAX_HOLES);
            if (holes < 0 || !take("gauge")) {
                return false;
            }
            int from = takeWhole(1, MAX_GAUGE);
            if (from < 0 || !take("to")) {
                return false;
            }
            int to = takeWhole(from, MAX_GAUGE);
            if (to < 0 || !takeWhen()) {
                return false;
            }
            into.addName(name, PLUG_NAMES + into.plugs.count);
            into.plugs.add(node, holes, from, to, whenOption, whenWith);
            return lineEnds();
        }

        private boolean readNet() {
            int number = into.nets.count;
            long name = takeNewName();
            if (name == 0) {
                return false;
            }
            int kind = takeKind();
            if (kind < 0 || !take("gauge")) {
                return false;
            }
            int gauge = takeWhole(1, MAX_GAUGE);
            if (gauge < 0 || !takeWhen() || !take("of")) {
                return false;
            }
            into.addName(name, NET_NAMES + number);
            into.nets.add(kind, gauge, whenOption, whenWith);
            return readPins(number) && lineEnds();
        }

        private boolean readPins(int net) {
            for (int k = 0; k < MAX_PINS; k++) {
                if (k > 1 && !sees(Tokens.COMMA)) {
                    return true;
                }
                if (k > 0 && !sees(Tokens.COMMA)) {
                    return fail(FORM);
                }
                at += k > 0 ? 1 : 0;
                int plug = takeNamed(PLUG_NAMES);
                if (plug < 0) {
                    return false;
                }
                if (sees(Tokens.WHOLE) && into.nets.hasPinAt(net, ~0, plug, (int) tokens.valueOf(at))) {
                    return fail(AGAIN);
                }
                int cavity = takeWhole(0, into.plugs.holes[plug] - 1);
                if (cavity < 0) {
                    return false;
                }
                into.nets.addPin(net, plug, cavity, into.plugs.node[plug]);
            }
            return true;
        }

        private boolean readBuild() {
            int harnesses = takeWhole(1, MOST_HARNESSES);
            if (harnesses < 0) {
                return false;
            }
            int variant = 0;
            for (int i = 0; i <= MAX_OPTIONS && sees(Tokens.WORD); i++) {
                int option = takeNamed(OPTION_NAMES);
                if (option < 0) {
                    return false;
                }
                if (Wires.has(variant, option)) {
                    at--; // the FAULT is at the OPTION, not behind it
                    return fail(AGAIN);
                }
                variant |= 1 << option;
            }
            if (!lineEnds()) {
                return false;
            }
            if (into.builds.hasVariant(variant)) {
                return fail(SAME);
            }
            into.builds.add(variant, harnesses);
            return true;
        }
    }

    /** What is THERE in a VARIANT, and the WIRES of a NET by some PINS of it (bits, as told). */
    private static final class Wires {
        static boolean has(int bits, int i) {
            return (bits >> i & 1) == 1;
        }

        static boolean isThere(int option, int with, int variant) {
            return option < 0 || has(variant, option) == (with == 1);
        }

        static int plugsThere(Harness h, int variant) {
            int bits = 0;
            for (int plug = 0; plug < h.plugs.count; plug++) {
                if (isThere(h.plugs.whenOption[plug], h.plugs.whenWith[plug], variant)) {
                    bits |= 1 << plug;
                }
            }
            return bits;
        }

        static int pinsThere(Harness h, int variant, int net) {
            Nets nets = h.nets;
            if (!isThere(nets.whenOption[net], nets.whenWith[net], variant)) {
                return 0;
            }
            int bits = 0;
            for (int k = 0; k < nets.pins[net]; k++) {
                int plug = nets.plug[net][k];
                if (isThere(h.plugs.whenOption[plug], h.plugs.whenWith[plug], variant)) {
                    bits |= 1 << k;
                }
            }
            return bits;
        }

        static int countFor(int pins) {
            int many = Integer.bitCount(pins);
            return many < 2 ? 0 : many == 2 ? 1 : many;
        }

        static boolean needsSplice(int pins) {
            return Integer.bitCount(pins) > 2;
        }

        static int reachOf(Harness h, int net, int pins, int node) {
            int all = 0;
            for (int k = 0; k < h.nets.pins[net]; k++) {
                if (has(pins, k)) {
                    all += h.tree.apart[node][h.nets.node[net][k]];
                }
            }
            return all;
        }

        /** The NODE from which a NET's WIRES run to its PINS: the SPLICE; of two PINS that of the first. */
        static int hubOf(Harness h, int net, int pins) {
            if (!needsSplice(pins)) {
                return firstNode(h, net, pins);
            }
            if (h.nets.hand[net] >= 0) {
                return h.nets.hand[net];
            }
            int hub = 0;
            int least = GREATEST;
            for (int node = 0; node < h.tree.count; node++) {
                int reached = reachOf(h, net, pins, node);
                if (reached < least) {
                    least = reached;
                    hub = node;
                }
            }
            return hub;
        }

        private static int firstNode(Harness h, int net, int pins) {
            for (int k = 0; k < h.nets.pins[net]; k++) {
                if (has(pins, k)) {
                    return h.nets.node[net][k];
                }
            }
            return 0;
        }

        static int lengthTo(Harness h, int net, int pins, int k) {
            int hub = hubOf(h, net, pins);
            if (countFor(pins) == 1) {
                return reachOf(h, net, pins, hub) + 2 * h.slack;
            }
            return h.tree.apart[hub][h.nets.node[net][k]] + h.slack + h.joint;
        }

        /** The lengths of all WIRES of a NET together. */
        static int lengthOf(Harness h, int net, int pins) {
            int many = countFor(pins);
            if (many == 0) {
                return 0;
            }
            int extra = many == 1 ? 2 * h.slack : many * (h.slack + h.joint);
            return reachOf(h, net, pins, hubOf(h, net, pins)) + extra;
        }

        static int lengthOfGauge(Harness h, int variant, int gauge) {
            int all = 0;
            for (int net = 0; net < h.nets.count; net++) {
                if (gauge == 0 || h.nets.gauge[net] == gauge) {
                    all += lengthOf(h, net, pinsThere(h, variant, net));
                }
            }
            return all;
        }

        /** How many WIRES of a NET run through a BUNDLE. */
        static int runsThrough(Harness h, int variant, int net, int node) {
            int pins = pinsThere(h, variant, net);
            if (countFor(pins) == 0) {
                return 0;
            }
            int hub = hubOf(h, net, pins);
            int runs = 0;
            for (int k = 0; k < h.nets.pins[net]; k++) {
                if (has(pins, k) && h.tree.parts(node, hub, h.nets.node[net][k])) {
                    runs++;
                }
            }
            return runs;
        }

        static int countThrough(Harness h, int variant, int node) {
            int all = 0;
            for (int net = 0; net < h.nets.count; net++) {
                all += runsThrough(h, variant, net, node);
            }
            return all;
        }

        static int bodyThrough(Harness h, int variant, int node) {
            int body = 0;
            for (int net = 0; net < h.nets.count; net++) {
                int gauge = h.nets.gauge[net];
                body += runsThrough(h, variant, net, node) * gauge * gauge;
            }
            return body;
        }

        static int netsThrough(Harness h, int variant, int node) {
            int bits = 0;
            for (int net = 0; net < h.nets.count; net++) {
                if (runsThrough(h, variant, net, node) > 0) {
                    bits |= 1 << net;
                }
            }
            return bits;
        }

        static int roundOf(int body) {
            int round = 0;
            // body + 1 is always enough
            while (round <= body && round * round * 10 < 12 * body) {
                round++;
            }
            return round;
        }

        static int thickestOf(Harness h, int variant) {
            int thickest = WITHOUT;
            int greatest = NONE;
            for (int node = 1; node < h.tree.count; node++) {
                int body = bodyThrough(h, variant, node);
                if (body > greatest) {
                    greatest = body;
                    thickest = node;
                }
            }
            return thickest;
        }
    }

    /** The FLAWS of one VARIANT at a time. */
    private static final class FlawRows {
        static final int PARTS = 5;
        private static final int DANGLES = 1;
        private static final int MISFITS = 2;
        private static final int CLASHES = 3;
        private static final int BESIDE = 4;
        private static final int ROOM = MAX_NETS * (1 + 3 * MAX_PINS);

        private int count;
        private final int[] parts = new int[ROOM * PARTS];
        private final int[] pins = new int[MAX_NETS];

        /** Lists them anew: how many. */
        int list(Harness h, int variant) {
            count = 0;
            for (int net = 0; net < h.nets.count; net++) {
                pins[net] = Wires.pinsThere(h, variant, net);
            }
            for (int net = 0; net < h.nets.count; net++) {
                for (int k = 0; k < h.nets.pins[net]; k++) {
                    if (Wires.has(pins[net], k)) {
                        listOfPin(h, net, k);
                    }
                }
            }
            return count;
        }

        int partOf(int i, int part) {
            return parts[i * PARTS + part];
        }

        private void listOfPin(Harness h, int net, int k) {
            int plug = h.nets.plug[net][k];
            int cavity = h.nets.cavity[net][k];
            int gauge = h.nets.gauge[net];
            // a NET that dangles has just this PIN, so this is ahead of all else of it
            if (Integer.bitCount(pins[net]) == 1) {
                add(DANGLES, net, WITHOUT, plug, cavity);
            }
            if (gauge < h.plugs.from[plug] || gauge > h.plugs.to[plug]) {
                add(MISFITS, net, WITHOUT, plug, cavity);
            }
            int first = firstAt(h, net, plug, cavity);
            if (first >= 0) {
                add(CLASHES, net, first, plug, cavity);
            }
            int near = firstBeside(h, net, plug, cavity);
            if (near >= 0) {
                add(BESIDE, net, near, plug, cavity);
            }
        }

        private int firstAt(Harness h, int net, int plug, int cavity) {
            for (int other = 0; other < net; other++) {
                if (h.nets.hasPinAt(other, pins[other], plug, cavity)) {
                    return other;
                }
            }
            return NONE;
        }

        private int firstBeside(Harness h, int net, int plug, int cavity) {
            int kind = h.nets.kind[net];
            int foe = kind == POWER ? SIGNAL : kind == SIGNAL ? POWER : NONE;
            for (int other = 0; other < h.nets.count; other++) {
                if (h.nets.kind[other] == foe
                    && (h.nets.hasPinAt(other, pins[other], plug, cavity - 1)
                        || h.nets.hasPinAt(other, pins[other], plug, cavity + 1))) {
                    return other;
                }
            }
            return NONE;
        }

        private void add(int number, int net, int other, int plug, int cavity) {
            if (count < ROOM) {
                int start = count * PARTS;
                parts[start] = number;
                parts[start + 1] = net;
                parts[start + 2] = other;
                parts[start + 3] = plug;
                parts[start + 4] = cavity;
                count++;
            }
        }
    }

    /** A HARNESS for some BUILDS (bits); FAMILIES, by trying all rows of groups, the first by the row first. */
    private static final class Families {
        /** How many ways there are to part five BUILDS. */
        private static final int MOST_ROWS = 52;

        /** By group (BUILDS as bits): what it needs. */
        private final int[] needs = new int[1 << MAX_BUILDS];
        private final int[] row = new int[MAX_BUILDS];
        final int[] best = new int[MAX_BUILDS];
        int least;

        void find(Harness h, int k) {
            int builds = h.builds.count;
            weighGroups(h);
            Arrays.fill(row, 0);
            least = GREATEST;
            boolean more = true;
            for (int turn = 0; turn < MOST_ROWS && more; turn++) {
                keepIfLess(builds);
                more = nextRow(builds, k);
            }
        }

        int countBest(int builds) {
            return greatest(best, builds) + 1;
        }

        private void weighGroups(Harness h) {
            for (int group = 1; group < 1 << h.builds.count; group++) {
                needs[group] = lengthFor(h, group) * harnessesOf(h, group);
            }
        }

        private void keepIfLess(int builds) {
            int need = 0;
            for (int group = 0; group <= greatest(row, builds); group++) {
                need += needs[buildsIn(group, builds)];
            }
            if (need < least) {
                least = need;
                for (int build = 0; build < builds; build++) {
                    best[build] = row[build];
                }
            }
        }

        private int buildsIn(int group, int builds) {
            int bits = 0;
            for (int build = 0; build < builds; build++) {
                if (row[build] == group) {
                    bits |= 1 << build;
                }
            }
            return bits;
        }

        /** The next row of k groups at most, each group first met behind all lesser ones. */
        private boolean nextRow(int builds, int k) {
            for (int i = builds - 1; i > 0; i--) {
                int most = Math.min(greatest(row, i) + 1, k - 1);
                if (row[i] < most) {
                    row[i]++;
                    for (int j = i + 1; j < builds; j++) {
                        row[j] = 0;
                    }
                    return true;
                }
            }
            return false;
        }

        private static int greatest(int[] groups, int builds) {
            int greatest = 0;
            for (int i = 0; i < builds; i++) {
                greatest = Math.max(greatest, groups[i]);
            }
            return greatest;
        }

        static int pinsFor(Harness h, int builds, int net) {
            int all = 0;
            for (int build = 0; build < h.builds.count; build++) {
                if (Wires.has(builds, build)) {
                    int pins = Wires.pinsThere(h, h.builds.variant[build], net);
                    all |= Wires.countFor(pins) > 0 ? pins : 0;
                }
            }
            return all;
        }

        static int lengthFor(Harness h, int builds) {
            int all = 0;
            for (int net = 0; net < h.nets.count; net++) {
                all += Wires.lengthOf(h, net, pinsFor(h, builds, net));
            }
            return all;
        }

        static int givenBy(Harness h, int builds) {
            int shared = lengthFor(h, builds);
            int all = 0;
            for (int build = 0; build < h.builds.count; build++) {
                if (Wires.has(builds, build)) {
                    all += (shared - lengthFor(h, 1 << build)) * h.builds.harnesses[build];
                }
            }
            return all;
        }

        static int harnessesOf(Harness h, int builds) {
            int all = 0;
            for (int build = 0; build < h.builds.count; build++) {
                if (Wires.has(builds, build)) {
                    all += h.builds.harnesses[build];
                }
            }
            return all;
        }

        static boolean isUsed(Harness h, int net) {
            return pinsFor(h, (1 << h.builds.count) - 1, net) != 0;
        }
    }

    /** The latest ACTS, each by what stood before it. */
    private static final class Acts {
        static final int SPLICE = 0;
        static final int LENGTH = 1;

        int count;
        final int[] sort = new int[MAX_ACTS];
        final int[] which = new int[MAX_ACTS];
        final int[] before = new int[MAX_ACTS];

        void keep(int ofSort, int ofWhich, int stoodBefore) {
            if (count >= MAX_ACTS) {
                dropOldest();
            }
            sort[count] = ofSort;
            which[count] = ofWhich;
            before[count] = stoodBefore;
            count++;
        }

        private void dropOldest() {
            for (int i = 1; i < MAX_ACTS; i++) {
                sort[i - 1] = sort[i];
                which[i - 1] = which[i];
                before[i - 1] = before[i];
            }
            count = MAX_ACTS - 1;
        }
    }
}
