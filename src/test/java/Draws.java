/** Draws for the tests, the same ones each time. */
final class Draws {
    private long state;

    Draws(long seed) {
        state = seed;
    }

    int below(int n) {
        state = state * 6364136223846793005L + 1442695040888963407L;
        return (int) ((state >>> 33) % n);
    }

    int from(int least, int most) {
        return least + below(most - least + 1);
    }

    long wide() {
        below(1);
        return state;
    }
}
