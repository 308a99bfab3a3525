import java.util.ArrayList;
import java.util.List;

/** Makes texts of harnesses by throws of the dice, and spoils them. */
final class Texts {
    private static final String[] SIDES = {"up", "right", "down", "left"};
    private static final String[] KINDS = {"power", "signal", "ground"};
    private static final String[] SPOILS = {"board", "node", "option", "plug", "net", "build", "off", "with", "without",
        "of", ";", ",", "0", "1", "9", "10", "12", "13", "99", "100", "999", "1000", "a", "n1x", "zz", "abcdefg",
        "abcdefgh", "#", "A", "slack", "joint", "long", "up", "left", "on", "holes", "gauge", "to", "power", "signal",
        "\u0001", "\u00ff", "na", "nb", "oa", "ob", "pa", "pb", "ta"};

    private final Dice dice;
    private int options = 0;
    private final List<Integer> holes = new ArrayList<>();

    private Texts(Dice dice) {
        this.dice = dice;
    }

    /** A harness without a fault (but for its length, which may be too great for the tape). */
    static String harness(Dice dice) {
        return new Texts(dice).text();
    }

    private static String letter(String sort, int i) {
        return sort + (char) ('a' + i);
    }

    private String text() {
        List<String> lines = new ArrayList<>();
        lines.add("board slack " + dice.next(20) + " joint " + dice.next(20));
        int nodes = dice.between(1, 14);
        int longest = dice.next(3) == 0 ? 30 : 6;
        lines.add("node na");
        for (int i = 1; i < nodes; i++) {
            int off = dice.next(2) == 0 ? i - 1 : dice.next(i);
            lines.add("node " + letter("n", i) + " off " + letter("n", off) + " " + SIDES[dice.next(4)] + " long "
                + dice.between(1, longest));
        }
        options = dice.next(5);
        for (int i = 0; i < options; i++) {
            lines.add(1 + dice.next(lines.size()), "option " + letter("o", i));
        }
        sortOptions(lines);
        int plugs = dice.between(1, 6);
        for (int i = 0; i < plugs; i++) {
            holes.add(dice.between(2, i == 0 ? 9 : 5));
            int from = dice.between(1, 4);
            lines.add("plug " + letter("p", i) + " on " + letter("n", dice.next(nodes)) + " holes " + holes.get(i)
                + " gauge " + from + " to " + dice.between(from, 9) + when());
        }
        int nets = dice.between(1, 8);
        for (int i = 0; i < nets; i++) {
            lines.add("net " + letter("t", i) + " " + KINDS[dice.next(3)] + " gauge " + dice.between(1, 6) + when()
                + " of " + pins());
        }
        addBuilds(lines);
        return String.join(";", lines);
    }

    /** Options are numbered as they are told: their names go by that. */
    private void sortOptions(List<String> lines) {
        int told = 0;
        for (int i = 0; i < lines.size(); i++) {
            if (lines.get(i).startsWith("option")) {
                lines.set(i, "option " + letter("o", told++));
            }
        }
    }

    private String when() {
        if (options == 0 || dice.next(2) == 0) {
            return "";
        }
        return (dice.next(2) == 0 ? " with " : " without ") + letter("o", dice.next(options));
    }

    private String pins() {
        List<String> pins = new ArrayList<>();
        int many = dice.between(2, 5);
        for (int i = 0; i < many; i++) {
            int plug = dice.next(holes.size());
            String pin = letter("p", plug) + " " + dice.next(holes.get(plug));
            if (!pins.contains(pin)) {
                pins.add(pin);
            }
        }
        if (pins.size() == 1) {
            pins.add(pins.get(0).endsWith(" 0") ? pins.get(0).replace(" 0", " 1")
                : pins.get(0).substring(0, 3) + "0");
        }
        return String.join(",", pins);
    }

    private void addBuilds(List<String> lines) {
        int many = dice.next(Math.min(5, 1 << options) + 1);
        int variant = dice.next(1 << options);
        for (int i = 0; i < many; i++) {
            StringBuilder line = new StringBuilder("build " + dice.between(1, 99));
            for (int option = 0; option < options; option++) {
                if ((variant >> option & 1) == 1) {
                    line.append(' ').append(letter("o", option));
                }
            }
            lines.add(line.toString());
            variant = (variant + 1) % (1 << options);
        }
    }

    /** The text with a token less, one more, another one, two of them in each other's stead, lines more, or cut off. */
    static String spoilt(String text, Dice dice) {
        List<String> tokens = new ArrayList<>(List.of(text.replace(";", " ; ").replace(",", " , ").split(" +")));
        int spoils = dice.between(1, 2);
        for (int i = 0; i < spoils && !tokens.isEmpty(); i++) {
            int at = dice.next(tokens.size());
            switch (dice.next(8)) {
                case 0: tokens.remove(at); break;
                case 1: tokens.add(at, SPOILS[dice.next(SPOILS.length)]); break;
                case 2: tokens.set(at, tokens.set(dice.next(tokens.size()), tokens.get(at))); break;
                case 3: tokens = new ArrayList<>(tokens.subList(0, at)); break;
                case 4: repeatLine(tokens, at); break;
                case 5: addLines(tokens, dice); break;
                default: tokens.set(at, SPOILS[dice.next(SPOILS.length)]); break;
            }
        }
        StringBuilder all = new StringBuilder();
        for (String token : tokens) {
            boolean parts = all.length() > 0 && (dice.next(3) > 0 || joins(all.charAt(all.length() - 1), token));
            all.append(parts ? " " : "").append(token);
        }
        return all.append(dice.next(4) == 0 ? "  " : "").toString();
    }

    private static void repeatLine(List<String> tokens, int at) {
        int end = at;
        while (end < tokens.size() && !tokens.get(end).equals(";")) {
            end++;
        }
        if (end < tokens.size()) {
            tokens.addAll(new ArrayList<>(tokens.subList(at, end + 1)));
        }
    }

    /** Lines of one sort behind all others, often more than there is room for. */
    private static void addLines(List<String> tokens, Dice dice) {
        String[] lines = {"node x@ off na up long 1", "option x@", "plug x@ on na holes 1 gauge 1 to 1",
            "net x@ power gauge 1 of pa 0 , pa 1", "build 1 oa"};
        String line = lines[dice.next(lines.length)];
        int many = dice.between(1, 8);
        for (int i = 0; i < many; i++) {
            tokens.add(";");
            tokens.addAll(List.of(line.replace("@", String.valueOf((char) ('a' + i))).split(" ")));
        }
    }

    private static boolean joins(char last, String token) {
        return Character.isLetterOrDigit(last) && Character.isLetterOrDigit(token.charAt(0));
    }
}
