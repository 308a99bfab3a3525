import java.lang.reflect.InvocationTargetException;
import java.lang.reflect.Method;
import java.util.ArrayList;
import java.util.Comparator;
import java.util.List;
import java.util.function.Supplier;

/** Runs tests of the document's edges, and what they use. */
final class Edges {
    static final long MIN = Integer.MIN_VALUE;
    static final long MAX = Integer.MAX_VALUE;

    private Edges() {
    }

    /** Runs all tests of a class (its methods that tell a sentence of the document) and ends the program if one fails. */
    static void run(Class<?> tests) {
        for (Method test : testsOf(tests)) {
            int failures = Bench.failures();
            try {
                test.invoke(null);
            } catch (InvocationTargetException e) {
                Bench.due(test.getName() + " ended by " + e.getCause(), 1, 0);
            } catch (IllegalAccessException e) {
                throw new IllegalStateException(e);
            }
            if (Bench.failures() > failures) {
                Says says = test.getAnnotation(Says.class);
                System.out.println("  that was " + test.getName() + ", for " + says.in() + ": " + says.words());
            }
        }
        Bench.close(tests.getSimpleName());
    }

    static List<Method> testsOf(Class<?> tests) {
        List<Method> found = new ArrayList<>();
        for (Method method : tests.getDeclaredMethods()) {
            if (method.isAnnotationPresent(Says.class)) {
                found.add(method);
            }
        }
        found.sort(Comparator.comparing(Method::getName));
        return found;
    }

    /** Numbers that are none of 0 .. many - 1. */
    static long[] out(long many) {
        return new long[] {-1, many, MIN, MAX};
    }

    // ---- answers

    /** A call that may be refused, and isn't: behind one that was, trouble() is 0 again. */
    static void is(SplicedLoom x, long want, String call, long... with) {
        Ask.of(x, "about", -1);
        Bench.due(Ask.text(call, with), Ask.of(x, call, with), want);
        Bench.due("trouble() behind " + Ask.text(call, with), Ask.of(x, "trouble"), 0);
    }

    /** A call that can't be refused: trouble() stays as it was. */
    static void says(SplicedLoom x, long want, String call, long... with) {
        long before = Ask.of(x, "trouble");
        Bench.due(Ask.text(call, with), Ask.of(x, call, with), want);
        Bench.due("trouble() behind " + Ask.text(call, with), Ask.of(x, "trouble"), before);
    }

    // ---- refusals

    /** A refused call: what it answers, what trouble() says, and that all stays as on a loom that wasn't asked. */
    static void refused(Supplier<SplicedLoom> maker, long none, int trouble, String call, long... with) {
        SplicedLoom asked = maker.get();
        SplicedLoom twin = maker.get();
        int fault = twin.fault();
        String text = Ask.text(call, with);
        Bench.due(text, Ask.of(asked, call, with), none);
        Bench.due("trouble() behind " + text, asked.trouble(), trouble);
        Bench.due("where() behind " + text, asked.where(), -1);
        Bench.due("fault() behind " + text, asked.fault(), fault);
        same(text, Shown.of(asked), Shown.of(twin));
    }

    /** Refused with NONE on a used loom. */
    static void refused(int trouble, String call, long... with) {
        refused(Looms::used, SplicedLoom.NONE, trouble, call, with);
    }

    private static void same(String text, List<String> got, List<String> want) {
        for (int i = 0; i < Math.max(got.size(), want.size()); i++) {
            String one = i < got.size() ? got.get(i) : "nothing";
            String other = i < want.size() ? want.get(i) : "nothing";
            if (!one.equals(other)) {
                Bench.due("behind " + text + ", " + one + " where " + other + " stood: as before", 0, 1);
                return;
            }
        }
        Bench.due("behind " + text + " all is as before", 1, 1);
    }

    // ---- texts

    /** A text without a FAULT. */
    static SplicedLoom good(String text) {
        SplicedLoom x = new SplicedLoom();
        int nets = Bench.tell(x, text);
        Bench.due("harness() of \"" + text + "\" has nets", nets > 0 ? 1 : 0, 1);
        Bench.due("trouble() of \"" + text + "\"", x.trouble(), 0);
        Bench.due("fault() of \"" + text + "\"", x.fault(), 0);
        Bench.due("where() of \"" + text + "\"", x.where(), -1);
        return x;
    }

    /** A text with a FAULT ahead of its sign ^, or at its end if it has none. */
    static void fault(int number, String marked) {
        int at = marked.indexOf('^');
        if (at < 0) {
            faultAt(number, marked.length(), marked);
        } else {
            faultAt(number, at, marked.substring(0, at) + marked.substring(at + 1));
        }
    }

    /** On a loom that has a HARNESS and ACTS, which stay. */
    static void faultAt(int number, int place, String text) {
        SplicedLoom asked = Looms.acted();
        SplicedLoom twin = Looms.acted();
        String name = "harness() of \"" + text + "\"";
        Bench.due(name, Bench.tell(asked, text), SplicedLoom.NONE);
        Bench.due("trouble() behind " + name, asked.trouble(), 4);
        Bench.due("fault() behind " + name, asked.fault(), number);
        Bench.due("where() behind " + name, asked.where(), place);
        same(name, Shown.of(asked), Shown.of(twin));
    }
}
