/** Numbers that look thrown, always the same ones. */
final class Dice {
    private long state;

    Dice(long seed) {
        state = seed * 0x9E3779B97F4A7C15L + 12345;
    }

    /** 0 .. sides - 1. */
    int next(int sides) {
        state = state * 6364136223846793005L + 1442695040888963407L;
        return (int) ((state >>> 33) % sides);
    }

    int between(int least, int most) {
        return least + next(most - least + 1);
    }
}
