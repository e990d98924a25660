/** Numbers that look like chance, but are the same at each run. */
final class Dice {
    private long state;

    Dice(long seed) {
        state = seed * 0x9E3779B97F4A7C15L + 1;
    }

    private int bits() {
        state = state * 6364136223846793005L + 1442695040888963407L;
        return (int) (state >>> 33);
    }

    int below(int bound) {
        return Math.floorMod(bits(), bound);
    }

    int from(int least, int most) {
        return least + below(most - least + 1);
    }

    boolean isOne(int of) {
        return below(of) == 0;
    }

    @SafeVarargs
    final <T> T of(T... all) {
        return all[below(all.length)];
    }
}
