/** Numbers that look random and are the same in each run of the tests. */
final class Dice {
    private long state;

    Dice(long seed) {
        state = seed * 0x9E3779B97F4A7C15L + 1;
    }

    /** 0 to bound - 1. */
    int roll(int bound) {
        state = state * 6364136223846793005L + 1442695040888963407L;
        return (int) Long.remainderUnsigned(state >>> 20, bound);
    }

    boolean oneIn(int bound) {
        return roll(bound) == 0;
    }
}
