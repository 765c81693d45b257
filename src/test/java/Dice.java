/** Told by its seed alone, so that each time the same calls are made. */
final class Dice {
    private long state;

    Dice(long seed) {
        state = seed * 0x9E3779B97F4A7C15L;
    }

    int anyInt() {
        state = state * 6364136223846793005L + 1442695040888963407L;
        return (int) (state >>> 32);
    }

    int below(int bound) {
        return Math.floorMod(anyInt() >>> 3, bound);
    }

    /** Once in so many times. */
    boolean once(int times) {
        return below(times) == 0;
    }
}
