import java.lang.reflect.InvocationTargetException;
import java.lang.reflect.Method;
import java.util.Map;
import java.util.NoSuchElementException;
import java.util.WeakHashMap;

/** A call of a loom, told by its name and its numbers. */
final class Ask {
    /** What a call answers that throws a NoSuchElementException. */
    static final long THROWN = -99;

    /** Of the 512 calls that are promised; the others are for what is fed and told besides. */
    private static final int MOST_CALLS = 400;
    private static final Map<SplicedLoom, int[]> CALLS = new WeakHashMap<>();

    private Ask() {
    }

    static long of(SplicedLoom x, String call, long... with) {
        // what later calls answer is free: no test may rest on it
        int[] calls = CALLS.computeIfAbsent(x, loom -> new int[1]);
        if (++calls[0] > MOST_CALLS) {
            throw new IllegalStateException("a test makes too many calls of one loom");
        }
        try {
            Object answer = methodOf(call).invoke(x, numbers(methodOf(call), with));
            return answer instanceof Boolean ? ((Boolean) answer ? 1 : 0) : ((Integer) answer);
        } catch (InvocationTargetException e) {
            if (e.getCause() instanceof NoSuchElementException) {
                return THROWN;
            }
            throw new IllegalStateException(text(call, with) + " threw " + e.getCause(), e.getCause());
        } catch (IllegalAccessException e) {
            throw new IllegalStateException(e);
        }
    }

    static String text(String call, long... with) {
        StringBuilder text = new StringBuilder(call).append('(');
        for (int i = 0; i < with.length; i++) {
            text.append(i > 0 ? ", " : "").append(with[i]);
        }
        return text.append(')').toString();
    }

    private static Method methodOf(String call) {
        for (Method method : SplicedLoom.class.getMethods()) {
            if (method.getName().equals(call)) {
                return method;
            }
        }
        throw new IllegalStateException("no call " + call);
    }

    private static Object[] numbers(Method method, long[] with) {
        Class<?>[] sorts = method.getParameterTypes();
        Object[] numbers = new Object[with.length];
        for (int i = 0; i < with.length; i++) {
            if (sorts[i] == long.class) {
                numbers[i] = with[i];
            } else {
                numbers[i] = (int) with[i];
            }
        }
        return numbers;
    }
}
