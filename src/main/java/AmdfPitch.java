/**
 * Finds the pitch lag with the least average magnitude difference over a ring
 * of the 32 most recent samples.
 */
public final class AmdfPitch {
    private static final int RING_SIZE = 32;
    // The size is a power of two, so this mask wraps any int, negative ones too, into the ring.
    private static final int RING_MASK = RING_SIZE - 1;
    private static final int WINDOW = 16;
    private static final int LEAST_LAG = 2;
    private static final int GREATEST_LAG = 15;
    private static final int NO_SCORE = -1;

    private final short[] ring = new short[RING_SIZE];
    private int head = 0;

    public AmdfPitch() {
    }

    /** Stores a sample and answers the one that it replaces, the oldest. */
    public int push(short s) {
        int replaced = ring[head & RING_MASK];
        ring[head & RING_MASK] = s;
        head = (head + 1) & RING_MASK;
        return replaced;
    }

    /** Answers the sum of absolute differences at this lag, or -1 if the lag is not in 2..15. */
    public int scoreAt(int lag) {
        if (lag < LEAST_LAG || lag > GREATEST_LAG) {
            return NO_SCORE;
        }
        int sum = 0;
        for (int j = 1; j <= WINDOW; j++) {
            int recent = ring[(head - j) & RING_MASK];
            int earlier = ring[(head - j - lag) & RING_MASK];
            sum += distance(recent, earlier);
        }
        return sum;
    }

    /** Answers the lag in 2..15 with the least score. */
    public int bestLag() {
        int best = LEAST_LAG;
        int leastScore = scoreAt(LEAST_LAG);
        for (int lag = LEAST_LAG + 1; lag <= GREATEST_LAG; lag++) {
            int score = scoreAt(lag);
            // Strictly less, so that the smallest lag keeps a tie.
            if (score < leastScore) {
                best = lag;
                leastScore = score;
            }
        }
        return best;
    }

    private static int distance(int a, int b) {
        return a < b ? b - a : a - b;
    }
}
