/** The section "What it is": what holds for all promises together, one test for each sentence. */
public final class WhatItIsTest {
    private static final Check check = new Check();

    public static void main(String[] args) {
        check.sentence("The state consists of exactly two things: RING ... HEAD",
            WhatItIsTest::theWayToAStateLeavesNoTrace);
        check.sentence("HEAD: an index in 0..31",
            WhatItIsTest::headStaysInTheRing);
        check.sentence("Nothing here ever throws.",
            WhatItIsTest::mixedCallsNeverThrow);
        check.end();
    }

    /** Finders with equal RING and HEAD must answer alike, whatever was called before. */
    private static void theWayToAStateLeavesNoTrace() {
        for (int head = 0; head < 32; head++) {
            AmdfPitch straight = new AmdfPitch();
            push(straight, new Samples(head), 32 + head);
            AmdfPitch roundabout = new AmdfPitch();
            wander(roundabout, 32 * 50);
            push(roundabout, new Samples(head), 32 + head);
            answerAlike("HEAD " + head, straight, roundabout);
        }
        AmdfPitch emptied = new AmdfPitch();
        wander(emptied, 32 * 50);
        for (int i = 0; i < 32; i++) {
            emptied.push((short) 0);
        }
        answerAlike("fresh and zeros again", new AmdfPitch(), emptied);
    }

    private static void push(AmdfPitch x, Samples samples, int count) {
        for (int i = 0; i < count; i++) {
            x.push(samples.wide());
        }
    }

    private static void wander(AmdfPitch x, int pushes) {
        Samples samples = new Samples(-1);
        for (int i = 0; i < pushes; i++) {
            x.push(i % 100 < 50 ? samples.wide() : samples.narrow());
            for (int call = 0; call < i % 5; call++) {
                x.scoreAt(samples.wide() % 20);
                x.bestLag();
            }
        }
    }

    private static void answerAlike(String name, AmdfPitch x, AmdfPitch y) {
        Samples samples = new Samples(99);
        for (int i = 0; i < 70; i++) {
            check.due(name + ": bestLag() after " + i, y.bestLag(), x.bestLag());
            for (int lag = 1; lag <= 16; lag++) {
                check.due(name + ": scoreAt(" + lag + ") after " + i, y.scoreAt(lag), x.scoreAt(lag));
            }
            short s = samples.narrow();
            check.due(name + ": push(" + s + ") no. " + i, y.push(s), x.push(s));
        }
    }

    /** A HEAD that only grows, wrapped where it is used, goes below 0 after 2^31 pushes. */
    private static void headStaysInTheRing() {
        Twin twin = new Twin(check, "after 2^31 pushes");
        AmdfPitch x = twin.finder;
        long pushes = (1L << 31) - 40;
        check.due("first push not answered by the sample 32 earlier", firstWrongPush(x, pushes), -1);
        for (long i = pushes - 32; i < pushes; i++) {
            twin.history.push(longRunSample(i));
        }
        for (int i = 0; i < 100; i++) {
            twin.push(300 * i);
            twin.allScores();
            twin.best();
        }
    }

    private static long firstWrongPush(AmdfPitch x, long pushes) {
        for (long i = 0; i < pushes; i++) {
            int want = i < 32 ? 0 : longRunSample(i - 32);
            if (x.push(longRunSample(i)) != want) {
                return i;
            }
        }
        return -1;
    }

    private static short longRunSample(long i) {
        return (short) (7 * i);
    }

    private static void mixedCallsNeverThrow() {
        Twin twin = new Twin(check, "mixed calls");
        Samples samples = new Samples(7);
        for (int i = 0; i < 20000; i++) {
            twin.push(samples.wide());
            // Two shorts side by side, so that the lag may be any int.
            twin.score(samples.wide() << 16 | samples.wide() & 0xffff);
            twin.score(samples.wide() % 20);
            twin.best();
        }
    }
}
