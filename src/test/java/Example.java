public final class Example {
    public static void main(String[] args) {
        SplicedLoom loom = new SplicedLoom();
        String text = "board slack 2 joint 3;node r;node a off r up long 10;option x;"
            + "plug p on r holes 3 gauge 1 to 4;plug q on a holes 2 gauge 1 to 9 with x;"
            + "net n power gauge 2 of p 0,p 2,q 0;build 10;build 5 x";
        feed(loom, text);
        System.out.println("nets: " + loom.harness(text.length()));

        // questions: variant 1 is the one with option 0, x
        System.out.println("net n with x: " + loom.wires(1, 0) + " wires, spliced at node " + loom.splice(1, 0));
        System.out.println("its wire to pin 2, q 0: " + loom.wire(1, 0, 2) + ", trouble " + loom.trouble());

        // refused: without x there is no plug q; there is no net 7
        System.out.println("the same without x: " + loom.wire(0, 0, 2) + ", trouble " + loom.trouble());
        System.out.println("wires of net 7: " + loom.wires(1, 7) + ", trouble " + loom.trouble());

        // a text with a fault is refused, too, and the harness stays
        String faulty = "board slack 2 joint 100";
        feed(loom, faulty);
        System.out.println("another harness: " + loom.harness(faulty.length()) + ", trouble " + loom.trouble()
            + ", fault " + loom.fault() + " at " + loom.where());

        // acts, undone
        System.out.println("bundle a was " + loom.stretch(1, 25) + " long; now the wire: " + loom.wire(1, 0, 2));
        System.out.println("undone: " + loom.undo() + ", the wire: " + loom.wire(1, 0, 2));
    }

    /** Twenty bytes a call, of each number the highest byte first, blanks behind the last ones. */
    private static void feed(SplicedLoom loom, String text) {
        for (int at = 0; at < text.length(); at += 20) {
            loom.feed(four(text, at), four(text, at + 4), four(text, at + 8), four(text, at + 12), four(text, at + 16));
        }
    }

    private static int four(String text, int at) {
        int number = 0;
        for (int i = at; i < at + 4; i++) {
            number = number << 8 | (i < text.length() ? text.charAt(i) : ' ');
        }
        return number;
    }
}
