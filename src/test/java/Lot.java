/** The same row of numbers each time, for tests over many frames. */
final class Lot {
    private long state;

    Lot(long seed) {
        state = seed * 0x9E3779B97F4A7C15L + 12345;
    }

    /** From 0 to below. */
    int below(int bound) {
        state = state * 6364136223846793005L + 1442695040888963407L;
        return (int) ((state >>> 33) % bound);
    }

    int between(int least, int most) {
        return least + below(most - least + 1);
    }

    boolean oneIn(int n) {
        return below(n) == 0;
    }
}
