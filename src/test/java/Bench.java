import java.util.NoSuchElementException;

/** What all tests use: a loom to be told texts, and the count of what was as due. */
final class Bench {
    private static final int MIN = Integer.MIN_VALUE;
    private static int passed = 0;
    private static int failed = 0;

    private Bench() {
    }

    static void due(String what, long got, long want) {
        if (got == want) {
            passed++;
        } else {
            failed++;
            System.out.println("  " + what + " answered " + got + ", due is " + want);
        }
    }

    static int failures() {
        return failed;
    }

    static void close(String test) {
        System.out.println(test + ": " + passed + " passed, " + failed + " failed");
        if (failed != 0) {
            System.exit(1);
        }
    }

    static SplicedLoom loomOf(String text) {
        SplicedLoom loom = new SplicedLoom();
        int nets = tell(loom, text);
        if (nets < 1) {
            due("harness of \"" + text + "\", fault " + loom.fault() + " at " + loom.where(), nets, 1);
        }
        return loom;
    }

    /** Feeds the text (with blanks behind it to the next twenty) and makes it the harness. */
    static int tell(SplicedLoom loom, String text) {
        feedAll(loom, text);
        return loom.harness(text.length());
    }

    static void feedAll(SplicedLoom loom, String text) {
        for (int at = 0; at < text.length(); at += 20) {
            loom.feed(number(text, at), number(text, at + 4), number(text, at + 8), number(text, at + 12),
                number(text, at + 16));
        }
    }

    private static int number(String text, int at) {
        int number = 0;
        for (int i = at; i < at + 4; i++) {
            number = number << 8 | (i < text.length() ? text.charAt(i) & 255 : 32);
        }
        return number;
    }

    static long name(String letters) {
        long word = 0;
        for (int i = 0; i < letters.length(); i++) {
            word = word * 256 + letters.charAt(i);
        }
        return word;
    }

    /** A call that was answered: trouble() is 0 behind it. */
    static void answers(SplicedLoom loom, String call, long got, long want) {
        due(call, got, want);
        due("trouble() behind " + call, loom.trouble(), 0);
    }

    static void refuses(SplicedLoom loom, String call, long got, int trouble) {
        due(call, got, SplicedLoom.NONE);
        due("trouble() behind " + call, loom.trouble(), trouble);
    }

    static void refusesNumber(SplicedLoom loom, String call, long got, int trouble) {
        due(call, got, MIN);
        due("trouble() behind " + call, loom.trouble(), trouble);
    }

    static void faulty(String text, int fault, int place) {
        SplicedLoom loom = new SplicedLoom();
        refuses(loom, "harness of \"" + text + "\"", tell(loom, text), 4);
        due("fault() of \"" + text + "\"", loom.fault(), fault);
        due("where() of \"" + text + "\"", loom.where(), place);
    }

    /** unused(i), -99 if it throws what the document says. */
    static int unused(SplicedLoom loom, int i) {
        try {
            return loom.unused(i);
        } catch (NoSuchElementException e) {
            return -99;
        }
    }
}
