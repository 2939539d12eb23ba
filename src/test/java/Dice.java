/** Numbers that look thrown, and are the same in every run of the tests. */
final class Dice {
    private long seed;

    Dice(long seed) {
        this.seed = seed;
    }

    int below(int bound) {
        seed = seed * 6364136223846793005L + 1442695040888963407L;
        return (int) ((seed >>> 33) % bound);
    }

    boolean once(int in) {
        return below(in) == 0;
    }
}
