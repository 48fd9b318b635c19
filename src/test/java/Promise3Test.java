import java.util.function.IntConsumer;

/** Promise 3: scoring one lag, one test for each sentence. */
public final class Promise3Test {
    private static final Check check = new Check();
    private static final int GREATEST_SUM = 1048560;

    public static void main(String[] args) {
        check.sentence("If `lag < 2` ..., the answer is -1.",
            Promise3Test::tooSmallLags);
        check.sentence("If ... `lag > 15`, the answer is -1.",
            Promise3Test::tooLargeLags);
        check.sentence("This covers every `int` outside 2..15",
            Promise3Test::everyIntOutside);
        check.sentence("The answer is -1 in every state, whatever RING and HEAD hold.",
            Promise3Test::minusOneInEveryState);
        check.sentence("The answer is the sum, for j = 1, 2, ..., 16",
            Promise3Test::plainSums);
        check.sentence("for each of the 16 most recent samples, the absolute difference ... added up",
            Promise3Test::impulsesCountInTheirPlaces);
        check.sentence("The index expressions wrap around the ring",
            Promise3Test::indexesWrap);
        check.sentence("with HEAD = 0, j = 1 refers to RING[31]",
            Promise3Test::headZeroMeetsTheLastEntry);
        check.sentence("with lag = 15, j = 16 the second index is `(0 - 31) & 31` = 1",
            Promise3Test::headZeroMeetsEntryOne);
        check.sentence("Because the difference is taken in `int`, it never overflows",
            Promise3Test::differencesDoNotOverflow);
        check.sentence("samples 32767 and -32768 give a term of 65535",
            Promise3Test::greatestTerm);
        check.sentence("The sum is at most 16 * 65535 = 1,048,560",
            Promise3Test::greatestSum);
        check.sentence("a valid lag never answers -1, and a -1 answer always means the lag was out of range",
            Promise3Test::validLagsNeverAnswerMinusOne);
        check.sentence("The samples referenced reach back at most 16 + 15 = 31 positions before HEAD",
            Promise3Test::reachesBack31);
        check.sentence("the slot at RING[HEAD] itself ... is never referenced by any valid lag",
            Promise3Test::oldestIsNeverReferenced);
        check.sentence("A ring whose relevant samples are all equal (including the fresh all-zero ring) answers 0.",
            Promise3Test::equalSamplesScoreZero);
        check.sentence("`scoreAt` changes no state: ..., whatever the argument",
            Promise3Test::scoringChangesNothing);
        check.sentence("Calling it any number of times in a row with the same argument gives the same answer.",
            Promise3Test::repeatedScoresAreEqual);
        check.sentence("`scoreAt` never throws.",
            Promise3Test::neverThrows);
        check.end();
    }

    private static void tooSmallLags() {
        AmdfPitch x = ramp(40);
        int[] small = {1, 0, -1, -2, -15, -16, -30, -31, -32, -65534, Integer.MIN_VALUE + 2, Integer.MIN_VALUE};
        for (int lag : small) {
            check.due("scoreAt(" + lag + ")", x.scoreAt(lag), -1);
        }
        check.due("scoreAt(2), the least that is not too small", x.scoreAt(2), 16 * 10 * 2);
    }

    private static void tooLargeLags() {
        AmdfPitch x = ramp(40);
        int[] large = {16, 17, 31, 32, 33, 34, 47, 256 + 2, 65536 + 2, Integer.MAX_VALUE - 1, Integer.MAX_VALUE};
        for (int lag : large) {
            check.due("scoreAt(" + lag + ")", x.scoreAt(lag), -1);
        }
        check.due("scoreAt(15), the greatest that is not too large", x.scoreAt(15), 16 * 10 * 15);
    }

    private static void everyIntOutside() {
        AmdfPitch x = ramp(40);
        check.due("first lag below 2 not answered by -1", firstScored(x, Integer.MIN_VALUE, 1), Long.MAX_VALUE);
        check.due("first lag above 15 not answered by -1", firstScored(x, 16, Integer.MAX_VALUE), Long.MAX_VALUE);
    }

    private static long firstScored(AmdfPitch x, long from, long to) {
        for (long lag = from; lag <= to; lag++) {
            if (x.scoreAt((int) lag) != -1) {
                return lag;
            }
        }
        return Long.MAX_VALUE;
    }

    private static void minusOneInEveryState() {
        States.each(check, t -> eachBadLag(lag -> check.due(t + ": scoreAt(" + lag + ")", t.finder.scoreAt(lag), -1)));
    }

    private static void plainSums() {
        AmdfPitch x = ramp(32);
        // On a ramp every sample is lag steps above its earlier one.
        for (int lag = 2; lag <= 15; lag++) {
            check.due("ramp scoreAt(" + lag + ")", x.scoreAt(lag), 16 * 10 * lag);
        }
        x.push((short) 0);
        // Sample 33 is 0, 15 others rise: |0 - 310| + 15 * 20 at lag 2, |0 - 180| + 15 * 150 at lag 15.
        check.due("broken ramp scoreAt(2)", x.scoreAt(2), 310 + 300);
        check.due("broken ramp scoreAt(15)", x.scoreAt(15), 180 + 2250);
        Twin twin = new Twin(check, "mixed");
        Samples samples = new Samples(33);
        for (int i = 0; i < 5000; i++) {
            twin.push(i % 200 < 100 ? samples.wide() : samples.narrow());
            twin.allScores();
        }
    }

    /** One sample among zeros, at every place and under every HEAD: it counts once as recent, once as earlier. */
    private static void impulsesCountInTheirPlaces() {
        for (int before = 0; before < 32; before++) {
            for (int size = -3; size <= 3; size += 6) {
                AmdfPitch x = zeros(before);
                x.push((short) size);
                for (int back = 1; back <= 33; back++) {
                    scoreImpulse(x, back);
                    x.push((short) 0);
                }
            }
        }
    }

    private static void scoreImpulse(AmdfPitch x, int back) {
        for (int lag = 2; lag <= 15; lag++) {
            int asRecent = back <= 16 ? 3 : 0;
            int asEarlier = back > lag && back <= 16 + lag ? 3 : 0;
            check.due("impulse " + back + " back, scoreAt(" + lag + ")", x.scoreAt(lag), asRecent + asEarlier);
        }
    }

    /** The same last 31 samples must score the same wherever in the ring they lie. */
    private static void indexesWrap() {
        for (int before = 0; before < 64; before++) {
            AmdfPitch x = zeros(before);
            for (int i = 1; i <= 31; i++) {
                x.push((short) (i * i));
            }
            for (int lag = 2; lag <= 15; lag++) {
                // i*i - (i-lag)*(i-lag) = lag * (2i - lag), and i runs from 16 to 31, whose sum is 376.
                check.due("squares after " + before + ", scoreAt(" + lag + ")", x.scoreAt(lag), lag * (752 - 16 * lag));
            }
        }
    }

    private static void headZeroMeetsTheLastEntry() {
        AmdfPitch x = zeros(31);
        x.push((short) 77);
        for (int lag = 2; lag <= 15; lag++) {
            check.due("only RING[31] is 77, scoreAt(" + lag + ")", x.scoreAt(lag), 77);
        }
    }

    private static void headZeroMeetsEntryOne() {
        AmdfPitch x = zeros(1);
        x.push((short) 77);
        for (int i = 2; i <= 31; i++) {
            x.push((short) 0);
        }
        check.due("only RING[1] is 77, scoreAt(15)", x.scoreAt(15), 77);
        check.due("only RING[1] is 77, scoreAt(14)", x.scoreAt(14), 0);
    }

    private static void differencesDoNotOverflow() {
        int[] ends = {-32768, -32767, -16385, -1, 0, 1, 16384, 32766, 32767};
        for (int old : ends) {
            for (int newest : ends) {
                AmdfPitch x = new AmdfPitch();
                for (int i = 0; i < 31; i++) {
                    x.push((short) old);
                }
                x.push((short) newest);
                for (int lag = 2; lag <= 15; lag++) {
                    check.due(newest + " against " + old + ", scoreAt(" + lag + ")", x.scoreAt(lag),
                        Math.abs(newest - old));
                }
            }
        }
    }

    private static void greatestTerm() {
        AmdfPitch low = new AmdfPitch();
        AmdfPitch high = new AmdfPitch();
        for (int i = 0; i < 31; i++) {
            low.push(Short.MAX_VALUE);
            high.push(Short.MIN_VALUE);
        }
        low.push(Short.MIN_VALUE);
        high.push(Short.MAX_VALUE);
        for (int lag = 2; lag <= 15; lag++) {
            check.due("-32768 against 32767, scoreAt(" + lag + ")", low.scoreAt(lag), 65535);
            check.due("32767 against -32768, scoreAt(" + lag + ")", high.scoreAt(lag), 65535);
        }
    }

    private static void greatestSum() {
        // A square wave that turns after every lag samples is all differences at that lag.
        for (int lag = 2; lag <= 15; lag++) {
            AmdfPitch x = new AmdfPitch();
            for (int i = 0; i < 100; i++) {
                x.push(i / lag % 2 == 0 ? Short.MIN_VALUE : Short.MAX_VALUE);
                if (i >= 30) {
                    check.due("square wave scoreAt(" + lag + ")", x.scoreAt(lag), GREATEST_SUM);
                }
                for (int other = 2; other <= 15; other++) {
                    check.holds("scoreAt(" + other + ") at most the greatest sum", x.scoreAt(other) <= GREATEST_SUM);
                }
            }
        }
    }

    private static void validLagsNeverAnswerMinusOne() {
        States.each(check, t -> {
            for (int lag = 2; lag <= 15; lag++) {
                check.holds(t + ": scoreAt(" + lag + ") is 0 or more", t.finder.scoreAt(lag) >= 0);
            }
        });
        // Sums that would be -1 if differences were added with their signs.
        for (int before = 0; before < 32; before++) {
            AmdfPitch x = zeros(before);
            x.push((short) -1);
            for (int lag = 2; lag <= 15; lag++) {
                check.due("newest is -1, scoreAt(" + lag + ")", x.scoreAt(lag), 1);
            }
        }
    }

    private static void reachesBack31() {
        for (int before = 0; before < 32; before++) {
            AmdfPitch x = impulseAt(before, 31);
            for (int lag = 2; lag <= 14; lag++) {
                check.due("31 back, scoreAt(" + lag + ")", x.scoreAt(lag), 0);
            }
            check.due("31 back, scoreAt(15)", x.scoreAt(15), 32767);
        }
    }

    private static void oldestIsNeverReferenced() {
        for (int before = 0; before < 32; before++) {
            AmdfPitch x = impulseAt(before, 32);
            for (int lag = 2; lag <= 15; lag++) {
                check.due("32 back, scoreAt(" + lag + ")", x.scoreAt(lag), 0);
            }
            check.due("the oldest is still there", x.push((short) 0), 32767);
        }
    }

    private static void equalSamplesScoreZero() {
        short[] values = {Short.MIN_VALUE, -1, 0, 1, 4321, Short.MAX_VALUE};
        for (short value : values) {
            AmdfPitch x = new AmdfPitch();
            for (int i = 1; i <= 70; i++) {
                x.push(value);
                // The 16 + lag newest are those that matter; what lies before them may differ.
                for (int lag = 2; lag <= 15; lag++) {
                    if (i >= 16 + lag) {
                        check.due(i + " times " + value + ", scoreAt(" + lag + ")", x.scoreAt(lag), 0);
                    }
                }
            }
        }
        AmdfPitch fresh = new AmdfPitch();
        for (int lag = 2; lag <= 15; lag++) {
            check.due("fresh scoreAt(" + lag + ")", fresh.scoreAt(lag), 0);
        }
    }

    private static void scoringChangesNothing() {
        States.each(check, t -> {
            for (int lag = 2; lag <= 15; lag++) {
                t.finder.scoreAt(lag);
            }
            eachBadLag(t.finder::scoreAt);
            t.wholeState();
        });
    }

    private static void repeatedScoresAreEqual() {
        States.each(check, t -> {
            for (int lag = 1; lag <= 16; lag++) {
                int first = t.finder.scoreAt(lag);
                for (int times = 2; times <= 40; times++) {
                    check.due(t + ": scoreAt(" + lag + ") time " + times, t.finder.scoreAt(lag), first);
                }
            }
        });
    }

    private static void neverThrows() {
        States.each(check, t -> {
            for (int lag = -70; lag <= 70; lag++) {
                t.score(lag);
            }
            // Far out, where HEAD - j - lag itself overflows.
            for (int step = 0; step <= 70; step++) {
                t.score(Integer.MIN_VALUE + step);
                t.score(Integer.MAX_VALUE - step);
            }
        });
    }

    private static void eachBadLag(IntConsumer test) {
        int[] far = {Integer.MIN_VALUE, Integer.MIN_VALUE + 1, Integer.MIN_VALUE + 2, -65534, 256 + 2, 65536 + 2,
            Integer.MAX_VALUE - 1, Integer.MAX_VALUE};
        for (int lag : far) {
            test.accept(lag);
        }
        for (int lag = -50; lag <= 1; lag++) {
            test.accept(lag);
        }
        for (int lag = 16; lag <= 50; lag++) {
            test.accept(lag);
        }
    }

    private static AmdfPitch ramp(int pushes) {
        AmdfPitch x = new AmdfPitch();
        for (int i = 1; i <= pushes; i++) {
            x.push((short) (10 * i));
        }
        return x;
    }

    private static AmdfPitch zeros(int pushes) {
        AmdfPitch x = new AmdfPitch();
        for (int i = 0; i < pushes; i++) {
            x.push((short) 0);
        }
        return x;
    }

    /** A ring of zeros but for one sample, which lies that many places back (1 is the newest). */
    private static AmdfPitch impulseAt(int before, int back) {
        AmdfPitch x = zeros(before);
        x.push(Short.MAX_VALUE);
        for (int i = 1; i < back; i++) {
            x.push((short) 0);
        }
        return x;
    }
}
