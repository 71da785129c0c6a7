/** A fixed sequence of numbers for mixed runs: the same start gives the same numbers every time. */
final class Sequence {
    private long state;

    Sequence(long start) {
        state = start;
    }

    /** A number from 0 up to bound - 1. */
    int next(int bound) {
        state = state * 6364136223846793005L + 1442695040888963407L;
        return (int) ((state >>> 33) % bound);
    }

    int oneOf(int[] choices) {
        return choices[next(choices.length)];
    }
}
