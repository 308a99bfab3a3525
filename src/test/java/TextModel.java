import java.util.ArrayList;
import java.util.List;
import java.util.regex.Matcher;
import java.util.regex.Pattern;

/** Reads a text into a Model by a second way of reading, or tells the fault and its place. */
final class TextModel {
    static final class Fault extends Exception {
        private static final long serialVersionUID = 1;
        final int number;
        final int place;

        Fault(int number, int place) {
            this.number = number;
            this.place = place;
        }
    }

    private static final Pattern TOKEN = Pattern.compile("[a-z]+|[0-9]+|[^ ]");
    private static final List<String> RESERVED =
        List.of("board", "node", "option", "plug", "net", "build", "off", "with", "without", "of");
    private static final int[] ROOM = {14, 4, 8, 10, 5};
    private static final List<String> LINES = List.of("node", "option", "plug", "net", "build");

    private final List<String> tokens = new ArrayList<>();
    private final List<Integer> places = new ArrayList<>();
    private final Model model = new Model();
    private int at = 0;

    private TextModel(String text) {
        Matcher matcher = TOKEN.matcher(text);
        while (matcher.find()) {
            tokens.add(matcher.group());
            places.add(matcher.start());
        }
        tokens.add("");
        places.add(text.length());
    }

    static Model read(String text) throws Fault {
        TextModel reader = new TextModel(text);
        reader.readText();
        return reader.model;
    }

    private void readText() throws Fault {
        boolean board = false;
        do {
            String first = see();
            if (first.equals("board")) {
                check(!board, 3);
                board = true;
                at++;
                word("slack");
                model.slack = whole(0, 99);
                word("joint");
                model.joint = whole(0, 99);
                lineEnd();
            } else {
                int line = LINES.indexOf(first);
                check(line >= 0, 1);
                check(board, 6);
                int[] told = {model.nodes.size(), model.options, model.plugs.size(), model.nets.size(),
                    model.builds.size()};
                check(told[line] < ROOM[line], 5);
                at++;
                line(line);
            }
        } while (goesOn());
        check(!model.nets.isEmpty(), 6);
    }

    private boolean goesOn() {
        if (see().equals(";")) {
            at++;
            return true;
        }
        return false;
    }

    private void line(int line) throws Fault {
        String name = line == 4 ? "" : newName();
        switch (line) {
            case 0:
                node();
                model.names.put(name, model.nodes.size() - 1);
                break;
            case 1:
                model.names.put(name, 100 + model.options);
                model.options++;
                break;
            case 2:
                plug();
                model.names.put(name, 200 + model.plugs.size() - 1);
                break;
            case 3:
                net();
                model.names.put(name, 300 + model.nets.size() - 1);
                break;
            default:
                build();
                break;
        }
        lineEnd();
    }

    private void node() throws Fault {
        Model.Node node = new Model.Node();
        node.off = -2;
        if (!model.nodes.isEmpty()) {
            word("off");
            node.off = told(0);
            node.side = choice("up", "right", "down", "left");
            word("long");
            node.length = whole(1, 999);
        }
        model.nodes.add(node);
    }

    private void plug() throws Fault {
        Model.Plug plug = new Model.Plug();
        word("on");
        plug.node = told(0);
        word("holes");
        plug.holes = whole(1, 12);
        word("gauge");
        plug.from = whole(1, 9);
        word("to");
        plug.to = whole(plug.from, 9);
        if (see().startsWith("with") && RESERVED.contains(see())) {
            plug.with = choice("without", "with");
            plug.option = told(1);
        }
        model.plugs.add(plug);
    }

    private void net() throws Fault {
        Model.Net net = new Model.Net();
        net.kind = choice("power", "signal", "ground");
        word("gauge");
        net.gauge = whole(1, 9);
        if (see().startsWith("with") && RESERVED.contains(see())) {
            net.with = choice("without", "with");
            net.option = told(1);
        }
        word("of");
        pin(net);
        word(",");
        pin(net);
        while (net.pins.size() < 5 && see().equals(",")) {
            at++;
            pin(net);
        }
        model.nets.add(net);
    }

    private void pin(Model.Net net) throws Fault {
        int plug = told(2);
        check(see().matches("[0-9]{1,3}"), 1);
        int cavity = Integer.parseInt(see());
        for (Model.Pin pin : net.pins) {
            check(pin.plug != plug || pin.cavity != cavity, 3);
        }
        net.pins.add(new Model.Pin(plug, whole(0, model.plugs.get(plug).holes - 1)));
    }

    private void build() throws Fault {
        Model.Build build = new Model.Build();
        build.harnesses = whole(1, 99);
        while (see().matches("[a-z]+")) {
            int option = told(1);
            if (!build.options.add(option)) {
                throw new Fault(3, places.get(at - 1));
            }
        }
        check(see().isEmpty() || see().equals(";"), 1);
        for (Model.Build other : model.builds) {
            check(!other.options.equals(build.options), 7);
        }
        model.builds.add(build);
    }

    private String see() {
        return tokens.get(at);
    }

    private void check(boolean good, int number) throws Fault {
        if (!good) {
            throw new Fault(number, places.get(at));
        }
    }

    private void word(String word) throws Fault {
        check(see().equals(word), 1);
        at++;
    }

    private int choice(String... words) throws Fault {
        int choice = List.of(words).indexOf(see());
        check(choice >= 0, 1);
        at++;
        return choice;
    }

    private int whole(int least, int most) throws Fault {
        check(see().matches("[0-9]{1,3}"), 1);
        int whole = Integer.parseInt(see());
        check(whole >= least && whole <= most, 4);
        at++;
        return whole;
    }

    private void checkName() throws Fault {
        check(see().matches("[a-z]{1,7}") && !RESERVED.contains(see()), 1);
    }

    private String newName() throws Fault {
        checkName();
        check(!model.names.containsKey(see()), 3);
        at++;
        return tokens.get(at - 1);
    }

    private int told(int sort) throws Fault {
        checkName();
        int meaning = model.names.getOrDefault(see(), -100);
        check(Math.floorDiv(meaning, 100) == sort, 2);
        at++;
        return meaning % 100;
    }

    private void lineEnd() throws Fault {
        check(see().isEmpty() || see().equals(";"), 1);
    }
}
