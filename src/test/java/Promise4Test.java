import java.util.Set;
import java.util.TreeSet;

/** Promise 4: the best lag, one test for each sentence. */
public final class Promise4Test {
    private static final Check check = new Check();

    public static void main(String[] args) {
        check.sentence("Answers the lag in 2..15 whose `scoreAt` is least",
            Promise4Test::periodsAreFound);
        check.sentence("evaluated against the current RING and HEAD",
            Promise4Test::followsEachPush);
        check.sentence("The answer is always in 2..15; it is never -1 and never outside that range, in any state.",
            Promise4Test::alwaysInRange);
        check.sentence("Among equal least scores the smallest lag wins.",
            Promise4Test::smallestOfEveryTiedPairWins);
        check.sentence("if lags 4 and 9 both have the least score and every other lag scores strictly higher, the answer is 4",
            Promise4Test::fourWinsOverNine);
        check.sentence("A fresh ring, where every lag scores 0, answers 2.",
            Promise4Test::freshRingAnswersTwo);
        check.sentence("any state in which all fourteen lags tie answers 2",
            Promise4Test::allLagsTied);
        check.sentence("`scoreAt(L)` is less than or equal to `scoreAt(k)` for every k in 2..15",
            Promise4Test::noLagScoresLess);
        check.sentence("and strictly less than `scoreAt(k)` for every k in 2..L-1",
            Promise4Test::smallerLagsScoreMore);
        check.sentence("`bestLag` changes no state",
            Promise4Test::findingChangesNothing);
        check.sentence("Repeated calls without an intervening `push` give the same answer.",
            Promise4Test::repeatedAnswersAreEqual);
        check.sentence("`bestLag` never throws.",
            Promise4Test::neverThrows);
        check.end();
    }

    private static void periodsAreFound() {
        // Periods 2 to 7 tie with their multiples at 0, so the smallest must win.
        for (int period = 2; period <= 15; period++) {
            AmdfPitch x = new AmdfPitch();
            for (int i = 0; i < 100; i++) {
                x.push((short) (i % period == 0 ? 30000 : 10 * (i % period)));
                if (i >= 31) {
                    check.due("period " + period + " at " + i, x.bestLag(), period);
                }
            }
        }
    }

    private static void followsEachPush() {
        Twin twin = new Twin(check, "periods in turn");
        for (int round = 0; round < 3; round++) {
            for (int period = 15; period >= 2; period--) {
                for (int i = 0; i < 40; i++) {
                    twin.push(i % period == 0 ? 30000 : 10 * (i % period));
                    twin.best();
                }
                check.due("bestLag() in round " + round, twin.finder.bestLag(), period);
            }
        }
    }

    private static void alwaysInRange() {
        States.each(check, t -> {
            int best = t.finder.bestLag();
            check.holds(t + ": bestLag() " + best + " in 2..15", best >= 2 && best <= 15);
        });
        // Periods that are themselves too small or too large to be answered.
        periodOutsideTheRange(1);
        for (int period = 16; period <= 40; period++) {
            periodOutsideTheRange(period);
        }
        greatestLeastScore();
    }

    private static void periodOutsideTheRange(int period) {
        Twin twin = new Twin(check, "period " + period);
        for (int i = 0; i < 100; i++) {
            twin.push(i % period == 0 ? 30000 : 10 * (i % period));
            twin.best();
            int best = twin.finder.bestLag();
            check.holds("period " + period + ": bestLag() " + best + " in 2..15", best >= 2 && best <= 15);
        }
    }

    /**
     * Of all rings of full-scale samples, this one has the greatest least
     * score: a search that starts from too low a score finds no lag here.
     */
    private static void greatestLeastScore() {
        String newestFirst = "-+--++---++++++----------------";
        for (int before = 0; before < 32; before++) {
            Twin twin = new Twin(check, "full-scale samples after " + before);
            for (int i = 0; i < before; i++) {
                twin.push(0);
            }
            for (int i = newestFirst.length() - 1; i >= 0; i--) {
                twin.push(newestFirst.charAt(i) == '+' ? 32767 : -32768);
            }
            check.due(twin + ": scoreAt(2)", twin.finder.scoreAt(2), 9 * 65535);
            check.due(twin + ": bestLag()", twin.finder.bestLag(), 2);
            for (int lag = 2; lag <= 15; lag++) {
                check.holds("lag " + lag + " scores no less", twin.finder.scoreAt(lag) >= 9 * 65535);
            }
        }
    }

    private static void smallestOfEveryTiedPairWins() {
        Set<String> pairs = new TreeSet<>();
        Twin twin = new Twin(check, "narrow");
        Samples samples = new Samples(0);
        for (int i = 0; i < 5000; i++) {
            twin.push(samples.narrow());
            int least = twin.history.score(twin.history.best());
            int tied = 0;
            int greatest = 0;
            for (int lag = 2; lag <= 15; lag++) {
                if (twin.history.score(lag) == least) {
                    tied++;
                    greatest = lag;
                }
            }
            if (tied == 2) {
                pairs.add(twin.history.best() + " and " + greatest);
            }
            if (tied >= 2) {
                twin.best();
            }
        }
        check.due("pairs of lags that tied alone", pairs.size(), 14 * 13 / 2);
    }

    private static void fourWinsOverNine() {
        AmdfPitch x = new AmdfPitch();
        short[] samples = {7, 6, 7, 0, 7, 9, 7, 4, 1, 0, 5, 7, 4, 3, 2, 5,
            3, 3, 1, 6, 4, 6, 1, 9, 2, 1, 1, 8, 8, 4, 9, 3};
        for (short s : samples) {
            x.push(s);
        }
        int least = 40;
        check.due("scoreAt(4)", x.scoreAt(4), least);
        check.due("scoreAt(9)", x.scoreAt(9), least);
        for (int lag = 2; lag <= 15; lag++) {
            check.holds("only lags 4 and 9 are least, lag " + lag, lag == 4 || lag == 9 || x.scoreAt(lag) > least);
        }
        check.due("bestLag() with 4 and 9 tied", x.bestLag(), 4);
    }

    private static void freshRingAnswersTwo() {
        check.due("fresh bestLag()", new AmdfPitch().bestLag(), 2);
    }

    private static void allLagsTied() {
        int[] values = {-32768, -9, -1, 0, 1, 9, 32767};
        for (int rest : values) {
            for (int newest : values) {
                AmdfPitch x = new AmdfPitch();
                for (int i = 0; i < 40; i++) {
                    x.push((short) rest);
                }
                tiedAt(x, 0);
                // The two newest are earlier than no sample at lags from 2 on, so every lag counts them alike.
                x.push((short) newest);
                tiedAt(x, Math.abs(newest - rest));
                x.push((short) newest);
                tiedAt(x, 2 * Math.abs(newest - rest));
            }
        }
        // One sample in every 16: each lag in 2..15 meets it once as recent and once as earlier.
        AmdfPitch x = new AmdfPitch();
        for (int i = 0; i < 100; i++) {
            x.push(i % 16 == 0 ? Short.MAX_VALUE : Short.MIN_VALUE);
            if (i >= 31) {
                tiedAt(x, 2 * 65535);
            }
        }
    }

    private static void tiedAt(AmdfPitch x, int score) {
        for (int lag = 2; lag <= 15; lag++) {
            check.due("tied scoreAt(" + lag + ")", x.scoreAt(lag), score);
        }
        check.due("bestLag() with all tied at " + score, x.bestLag(), 2);
    }

    private static void noLagScoresLess() {
        AmdfPitch x = new AmdfPitch();
        Samples samples = new Samples(4);
        for (int i = 0; i < 5000; i++) {
            x.push(i % 200 < 100 ? samples.wide() : samples.narrow());
            int best = x.bestLag();
            for (int lag = 2; lag <= 15; lag++) {
                check.holds("push " + i + ": " + lag + " scores no less than " + best,
                    x.scoreAt(best) <= x.scoreAt(lag));
            }
        }
    }

    private static void smallerLagsScoreMore() {
        AmdfPitch x = new AmdfPitch();
        Samples samples = new Samples(5);
        for (int i = 0; i < 5000; i++) {
            x.push(i % 200 < 100 ? samples.wide() : samples.narrow());
            int best = x.bestLag();
            for (int lag = 2; lag < best; lag++) {
                check.holds("push " + i + ": " + lag + " scores more than " + best,
                    x.scoreAt(best) < x.scoreAt(lag));
            }
        }
    }

    private static void findingChangesNothing() {
        States.each(check, t -> {
            t.finder.bestLag();
            t.wholeState();
        });
    }

    private static void repeatedAnswersAreEqual() {
        States.each(check, t -> {
            int first = t.finder.bestLag();
            for (int times = 2; times <= 40; times++) {
                check.due(t + ": bestLag() time " + times, t.finder.bestLag(), first);
                // Nor may a score asked for in between sway it.
                t.finder.scoreAt(times % 20);
            }
        });
    }

    private static void neverThrows() {
        States.each(check, Twin::best);
    }
}
