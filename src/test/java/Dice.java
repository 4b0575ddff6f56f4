/** Numbers that look thrown, but are the same on every run. */
final class Dice {
    private long seed;

    Dice(long seed) {
        this.seed = seed * 0x9E3779B97F4A7C15L + 1;
    }

    int below(int n) {
        seed = seed * 6364136223846793005L + 1442695040888963407L;
        return (int) ((seed >>> 33) % n);
    }

    int from(int low, int high) {
        return low + below(high - low + 1);
    }

    boolean once(int in) {
        return below(in) == 0;
    }
}
