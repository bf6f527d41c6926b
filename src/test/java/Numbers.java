/** Mixed numbers that are the same each time: a run that fails must fail again. */
final class Numbers {
    private long seed;

    Numbers(long seed) {
        this.seed = seed;
    }

    int below(int range) {
        seed = seed * 6364136223846793005L + 1442695040888963407L;
        return (int) ((seed >>> 33) % range);
    }
}
