/** Mixed numbers from an arithmetic sequence, so that every run of a test makes the same calls. */
final class FixedNumbers {
    private long state;

    FixedNumbers(int run) {
        state = 1000003L * run + 17;
    }

    /** A number from 0 to bound - 1. */
    int pick(int bound) {
        state = state * 6364136223846793005L + 1442695040888963407L;
        return (int) ((state >>> 33) % bound);
    }
}
