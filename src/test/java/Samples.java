/** A fixed sequence of varied samples: the same in every run, so a failure can be repeated. */
final class Samples {
    private long state;

    Samples(long seed) {
        state = seed;
    }

    private int bits() {
        state = state * 6364136223846793005L + 1442695040888963407L;
        return (int) (state >>> 33);
    }

    /** Any sample, the ends of the range more often than chance would bring them. */
    short wide() {
        int kind = bits() % 8;
        if (kind == 0) {
            return Short.MIN_VALUE;
        }
        if (kind == 1) {
            return Short.MAX_VALUE;
        }
        return (short) bits();
    }

    /** One of -1, 0 and 1: few enough values that scores often tie. */
    short narrow() {
        return (short) (bits() % 3 - 1);
    }
}
