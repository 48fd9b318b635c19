/** Promise 4: the best lag. */
public final class Promise4Test {
    private static final Check check = new Check();

    public static void main(String[] args) {
        allLagsTied();
        periodsAreFound();
        smallestOfTiedLagsWins();
        findingChangesNothing();
        answersFitTheScores();
        check.end();
    }

    private static void allLagsTied() {
        check.due("fresh bestLag()", new AmdfPitch().bestLag(), 2);
        AmdfPitch x = new AmdfPitch();
        x.push((short) 7);
        // Every lag scores 7 here: a tie above 0.
        check.due("one sample, scoreAt(15)", x.scoreAt(15), 7);
        check.due("one sample, bestLag()", x.bestLag(), 2);
        for (int i = 0; i < 40; i++) {
            x.push((short) -9);
        }
        check.due("all equal, bestLag()", x.bestLag(), 2);
    }

    private static void periodsAreFound() {
        // Periods 2 to 7 tie with their multiples at 0, so the smallest must win.
        for (int period = 2; period <= 15; period++) {
            AmdfPitch x = new AmdfPitch();
            for (int i = 0; i < 100; i++) {
                x.push((short) (i % period == 0 ? 30000 : 10 * (i % period)));
                if (i >= 31) {
                    check.due("period " + period + " at " + i, x.bestLag(), period);
                }
            }
        }
    }

    private static void smallestOfTiedLagsWins() {
        AmdfPitch x = new AmdfPitch();
        short[] samples = {7, 6, 7, 0, 7, 9, 7, 4, 1, 0, 5, 7, 4, 3, 2, 5,
            3, 3, 1, 6, 4, 6, 1, 9, 2, 1, 1, 8, 8, 4, 9, 3};
        for (short s : samples) {
            x.push(s);
        }
        int least = 40;
        check.due("scoreAt(4)", x.scoreAt(4), least);
        check.due("scoreAt(9)", x.scoreAt(9), least);
        for (int lag = 2; lag <= 15; lag++) {
            check.holds("only lags 4 and 9 are least, lag " + lag, lag == 4 || lag == 9 || x.scoreAt(lag) > least);
        }
        check.due("bestLag() with 4 and 9 tied", x.bestLag(), 4);
    }

    private static void findingChangesNothing() {
        for (int pushes = 0; pushes <= 66; pushes++) {
            AmdfPitch x = new AmdfPitch();
            History h = new History();
            Samples samples = new Samples(pushes);
            for (int i = 0; i < pushes; i++) {
                short s = samples.wide();
                x.push(s);
                h.push(s);
            }
            for (int times = 0; times < 3; times++) {
                check.due("bestLag() after " + pushes, x.bestLag(), h.best());
            }
            for (int lag = 2; lag <= 15; lag++) {
                check.due("scoreAt(" + lag + ") after bestLag()", x.scoreAt(lag), h.score(lag));
            }
            for (int i = 0; i < 32; i++) {
                check.due("sample " + i + " after bestLag()", x.push((short) 0), h.push(0));
            }
        }
    }

    private static void answersFitTheScores() {
        AmdfPitch x = new AmdfPitch();
        History h = new History();
        Samples samples = new Samples(4);
        for (int i = 0; i < 5000; i++) {
            short s = i % 200 < 100 ? samples.wide() : samples.narrow();
            x.push(s);
            h.push(s);
            int best = x.bestLag();
            check.due("bestLag() after push no. " + i, best, h.best());
            check.holds("bestLag() " + best + " in 2..15", best >= 2 && best <= 15);
            for (int lag = 2; lag <= 15; lag++) {
                boolean fits = lag < best ? x.scoreAt(best) < x.scoreAt(lag) : x.scoreAt(best) <= x.scoreAt(lag);
                check.holds("after push no. " + i + " lag " + best + " beats " + lag, fits);
            }
        }
    }
}
