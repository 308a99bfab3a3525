import java.util.ArrayList;
import java.util.List;

/** What a loom shows of its state, call by call; it undoes all and makes THE TAPE its harness, so it is the last. */
final class Shown {
    private final SplicedLoom x;
    private final List<String> rows = new ArrayList<>();
    private int nodes;
    private int options;
    private int plugs;
    private int nets;
    private int builds;

    private Shown(SplicedLoom x) {
        this.x = x;
    }

    static List<String> of(SplicedLoom x) {
        Shown shown = new Shown(x);
        shown.sizes();
        shown.tree();
        shown.parts();
        shown.variants();
        shown.builds();
        shown.undone();
        shown.tape();
        return shown.rows;
    }

    private int ask(String call, long... with) {
        long answer = Ask.of(x, call, with);
        rows.add(Ask.text(call, with) + " = " + answer);
        return (int) answer;
    }

    private void sizes() {
        for (int what = 0; what < 3; what++) {
            ask("size", what);
        }
        ask("about", 0);
        ask("about", 1);
        nodes = ask("about", 2);
        options = ask("about", 3);
        plugs = ask("about", 4);
        nets = ask("about", 5);
        builds = ask("about", 6);
        ask("named", Bench.name("r"));
        ask("named", Bench.name("z"));
    }

    private void tree() {
        for (int i = 0; i < Math.min(nodes, 8); i++) {
            for (int what = 0; what < 3; what++) {
                ask("node", i, what);
            }
            ask("place", i, 0);
            ask("place", i, 1);
            ask("side", i);
        }
        ask("span");
        ask("meetings");
    }

    private void parts() {
        for (int i = 0; i < Math.min(plugs, 4); i++) {
            for (int what = 0; what < 6; what++) {
                ask("plug", i, what);
            }
        }
        for (int i = 0; i < Math.min(nets, 4); i++) {
            for (int what = 0; what < 6; what++) {
                ask("net", i, what);
            }
            for (int k = 0; k < 4; k++) {
                ask("pin", i, k, 0);
                ask("pin", i, k, 1);
            }
        }
    }

    private void variants() {
        int variants = 1 << Math.max(0, Math.min(options, 2));
        for (int variant = 0; variant < variants; variant++) {
            ask("plugs", variant);
            ask("total", variant, 0);
            ask("flaws", variant);
            ask("thickest", variant);
            for (int net = 0; net < Math.min(nets, 3); net++) {
                ask("splice", variant, net);
                ask("wire", variant, net, 0);
            }
        }
        ask("sound");
        ask("flawed");
    }

    private void builds() {
        for (int i = 0; i < builds; i++) {
            ask("build", i, 0);
            ask("build", i, 1);
            ask("group", 2, i);
        }
        ask("common", (1L << Math.max(0, builds)) - 1);
        ask("given", (1L << Math.max(0, builds)) - 1);
        for (int k = 1; k < 4; k++) {
            ask("families", k);
        }
        ask("unused", 0);
    }

    private void undone() {
        for (int i = 0; i < 11 && ask("undo") == 1; i++) {
            for (int net = 0; net < Math.min(nets, 3); net++) {
                ask("net", net, 5);
            }
            for (int node = 1; node < Math.min(nodes, 5); node++) {
                ask("node", node, 1);
            }
        }
    }

    private void tape() {
        ask("harness", ask("size", 0));
        ask("fault");
        ask("where");
        for (int what = 0; what < 7; what++) {
            ask("about", what);
        }
    }
}
