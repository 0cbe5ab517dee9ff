/** Numbers that look drawn but are the same in every run. */
final class Numbers {
    private long state;

    Numbers(long seed) {
        state = seed;
    }

    /** One of 0 .. bound - 1. */
    int below(int bound) {
        state = state * 6364136223846793005L + 1442695040888963407L;
        return (int) ((state >>> 33) % bound);
    }

    /** One of low .. high. */
    int between(int low, int high) {
        return low + below(high - low + 1);
    }

    boolean oneIn(int chances) {
        return below(chances) == 0;
    }
}
