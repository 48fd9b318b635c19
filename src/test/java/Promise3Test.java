/** Promise 3: scoring one lag. */
public final class Promise3Test {
    private static final Check check = new Check();

    public static void main(String[] args) {
        plainScores();
        outOfRangeLagsAnswerMinusOne();
        greatestTermAndSum();
        equalSamplesScoreZero();
        impulsesCountInTheirPlaces();
        oldestIsNeverReferenced();
        scoringChangesNothing();
        manyStatesAgreeWithHistory();
        check.end();
    }

    private static void plainScores() {
        AmdfPitch x = new AmdfPitch();
        for (int i = 1; i <= 32; i++) {
            x.push((short) (10 * i));
        }
        // On a ramp every sample is lag steps above its earlier one. HEAD is 0 here.
        for (int lag = 2; lag <= 15; lag++) {
            check.due("ramp scoreAt(" + lag + ")", x.scoreAt(lag), 16 * 10 * lag);
        }
        x.push((short) 0);
        // Sample 33 is 0, 15 others rise: |0 - 310| + 15 * 20 at lag 2, |0 - 180| + 15 * 150 at lag 15.
        check.due("broken ramp scoreAt(2)", x.scoreAt(2), 310 + 300);
        check.due("broken ramp scoreAt(15)", x.scoreAt(15), 180 + 2250);
    }

    private static void outOfRangeLagsAnswerMinusOne() {
        AmdfPitch x = new AmdfPitch();
        Samples samples = new Samples(3);
        for (int pushes = 0; pushes <= 70; pushes++) {
            badLags(x);
            x.push(samples.wide());
        }
        for (long lag = Integer.MIN_VALUE; lag <= Integer.MAX_VALUE; lag += 65521) {
            if (lag < 2 || lag > 15) {
                check.due("scoreAt(" + lag + ")", x.scoreAt((int) lag), -1);
            }
        }
    }

    private static void badLags(AmdfPitch x) {
        int[] bad = {Integer.MIN_VALUE, Integer.MIN_VALUE + 1, Integer.MIN_VALUE + 2, -65534, -32, -31, -30,
            -16, -15, -2, -1, 0, 1, 16, 17, 31, 32, 33, 34, 47, 256 + 2, 65536 + 2,
            Integer.MAX_VALUE - 1, Integer.MAX_VALUE};
        for (int lag : bad) {
            check.due("scoreAt(" + lag + ")", x.scoreAt(lag), -1);
        }
        for (int lag = -300; lag <= 300; lag++) {
            if (lag < 2 || lag > 15) {
                check.due("scoreAt(" + lag + ")", x.scoreAt(lag), -1);
            }
        }
    }

    private static void greatestTermAndSum() {
        AmdfPitch x = new AmdfPitch();
        for (int i = 0; i < 32; i++) {
            x.push(i % 2 == 0 ? Short.MIN_VALUE : Short.MAX_VALUE);
        }
        for (int lag = 2; lag <= 15; lag++) {
            check.due("alternating scoreAt(" + lag + ")", x.scoreAt(lag), lag % 2 == 0 ? 0 : 1048560);
        }
        AmdfPitch low = new AmdfPitch();
        AmdfPitch high = new AmdfPitch();
        for (int i = 0; i < 31; i++) {
            low.push(Short.MAX_VALUE);
            high.push(Short.MIN_VALUE);
        }
        low.push(Short.MIN_VALUE);
        high.push(Short.MAX_VALUE);
        for (int lag = 2; lag <= 15; lag++) {
            check.due("one low term, lag " + lag, low.scoreAt(lag), 65535);
            check.due("one high term, lag " + lag, high.scoreAt(lag), 65535);
        }
    }

    private static void equalSamplesScoreZero() {
        short[] values = {Short.MIN_VALUE, -1, 0, 1, 4321, Short.MAX_VALUE};
        for (short value : values) {
            AmdfPitch x = new AmdfPitch();
            // 31 equal samples are enough: the oldest slot still holds its first zero.
            for (int i = 0; i < 31; i++) {
                x.push(value);
            }
            for (int lag = 2; lag <= 15; lag++) {
                check.due("all " + value + " scoreAt(" + lag + ")", x.scoreAt(lag), 0);
            }
        }
    }

    /** One sample among zeros, at every place and under every HEAD: it counts once as recent, once as earlier. */
    private static void impulsesCountInTheirPlaces() {
        for (int before = 0; before < 32; before++) {
            for (int size = -3; size <= 3; size += 6) {
                AmdfPitch x = new AmdfPitch();
                for (int i = 0; i < before; i++) {
                    x.push((short) 0);
                }
                x.push((short) size);
                for (int back = 1; back <= 33; back++) {
                    scoreImpulse(x, back);
                    x.push((short) 0);
                }
            }
        }
    }

    private static void scoreImpulse(AmdfPitch x, int back) {
        for (int lag = 2; lag <= 15; lag++) {
            int asRecent = back <= 16 ? 3 : 0;
            int asEarlier = back > lag && back <= 16 + lag ? 3 : 0;
            check.due("impulse " + back + " back, scoreAt(" + lag + ")", x.scoreAt(lag), asRecent + asEarlier);
        }
    }

    private static void oldestIsNeverReferenced() {
        for (int before = 0; before < 32; before++) {
            AmdfPitch x = new AmdfPitch();
            for (int i = 0; i < before; i++) {
                x.push((short) 0);
            }
            x.push(Short.MAX_VALUE);
            for (int i = 0; i < 30; i++) {
                x.push((short) 0);
            }
            check.due("31 back, scoreAt(15)", x.scoreAt(15), 32767);
            check.due("31 back, scoreAt(14)", x.scoreAt(14), 0);
            x.push((short) 0);
            for (int lag = 2; lag <= 15; lag++) {
                check.due("32 back, scoreAt(" + lag + ")", x.scoreAt(lag), 0);
            }
            check.due("the oldest is still there", x.push((short) 0), 32767);
        }
    }

    private static void scoringChangesNothing() {
        for (int pushes = 0; pushes <= 66; pushes++) {
            AmdfPitch x = new AmdfPitch();
            History h = new History();
            Samples samples = new Samples(pushes);
            for (int i = 0; i < pushes; i++) {
                short s = samples.wide();
                x.push(s);
                h.push(s);
            }
            for (int lag = 2; lag <= 15; lag++) {
                check.due("scoreAt(" + lag + ")", x.scoreAt(lag), h.score(lag));
                check.due("scoreAt(" + lag + ") again", x.scoreAt(lag), h.score(lag));
            }
            badLags(x);
            for (int i = 0; i < 32; i++) {
                check.due("sample " + i + " after scoring", x.push((short) 0), h.push(0));
            }
        }
    }

    private static void manyStatesAgreeWithHistory() {
        AmdfPitch x = new AmdfPitch();
        History h = new History();
        Samples samples = new Samples(33);
        for (int i = 0; i < 5000; i++) {
            short s = i % 200 < 100 ? samples.wide() : samples.narrow();
            check.due("push no. " + i, x.push(s), h.push(s));
            for (int lag = 0; lag <= 17; lag++) {
                check.due("after push no. " + i + " scoreAt(" + lag + ")", x.scoreAt(lag), h.score(lag));
            }
        }
    }
}
