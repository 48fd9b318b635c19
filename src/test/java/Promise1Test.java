/** Promise 1: construction and starting state, one test for each sentence. */
public final class Promise1Test {
    private static final Check check = new Check();

    public static void main(String[] args) {
        check.sentence("every one of the 32 entries of RING is 0",
            Promise1Test::everyEntryIsZero);
        check.sentence("HEAD is 0 (only that it is in the ring: which place, no call can tell)",
            Promise1Test::headStartsInsideTheRing);
        check.sentence("The constructor takes no arguments and never throws.",
            Promise1Test::constructorNeverThrows);
        check.sentence("The first 32 calls to `push` each answer 0",
            Promise1Test::first32PushesAnswerZero);
        check.sentence("Before any `push`, `scoreAt(lag)` answers 0 for every lag in 2..15",
            Promise1Test::freshLagsScoreZero);
        check.sentence("Before any `push`, `bestLag()` answers 2.",
            Promise1Test::freshBestLagIsTwo);
        check.sentence("Each instance has its own RING and HEAD",
            Promise1Test::eachHasItsOwnRingAndHead);
        check.sentence("creating ... one instance does not affect any other",
            Promise1Test::creatingAffectsNoOther);
        check.sentence("... using one instance does not affect any other",
            Promise1Test::usingAffectsNoOther);
        check.end();
    }

    private static void everyEntryIsZero() {
        AmdfPitch x = new AmdfPitch();
        for (int i = 0; i < 32; i++) {
            check.due("entry " + i, x.push((short) 0), 0);
        }
    }

    /**
     * With all entries 0, no call can tell at which place of the ring HEAD
     * starts; that it is a place of the ring, all 32 of which follow, it can.
     */
    private static void headStartsInsideTheRing() {
        AmdfPitch x = new AmdfPitch();
        for (int i = 1; i <= 32; i++) {
            x.push((short) i);
        }
        for (int i = 1; i <= 32; i++) {
            check.due("place " + i + " again", x.push((short) 0), i);
        }
    }

    private static void constructorNeverThrows() {
        check.due("constructors", AmdfPitch.class.getDeclaredConstructors().length, 1);
        check.due("arguments", AmdfPitch.class.getDeclaredConstructors()[0].getParameterCount(), 0);
        for (int i = 0; i < 10000; i++) {
            check.due("bestLag() of new object " + i, new AmdfPitch().bestLag(), 2);
        }
    }

    private static void first32PushesAnswerZero() {
        int[] values = {Short.MIN_VALUE, -1, 0, 1, Short.MAX_VALUE};
        for (int value : values) {
            AmdfPitch x = new AmdfPitch();
            for (int i = 1; i <= 32; i++) {
                check.due("push(" + value + ") no. " + i, x.push((short) value), 0);
            }
            check.due("push(5) no. 33", x.push((short) 5), value);
        }
    }

    private static void freshLagsScoreZero() {
        AmdfPitch x = new AmdfPitch();
        for (int lag = 2; lag <= 15; lag++) {
            check.due("fresh scoreAt(" + lag + ")", x.scoreAt(lag), 0);
            check.due("first call scoreAt(" + lag + ")", new AmdfPitch().scoreAt(lag), 0);
        }
        check.due("fresh scoreAt(1)", x.scoreAt(1), -1);
        check.due("fresh scoreAt(16)", x.scoreAt(16), -1);
    }

    private static void freshBestLagIsTwo() {
        AmdfPitch x = new AmdfPitch();
        check.due("first call bestLag()", x.bestLag(), 2);
        x.scoreAt(15);
        check.due("bestLag() before any push", x.bestLag(), 2);
    }

    private static void eachHasItsOwnRingAndHead() {
        Twin x = new Twin(check, "x");
        Twin y = new Twin(check, "y");
        // Unequal numbers of pushes, so that a shared HEAD would show as well as a shared RING.
        for (int i = 1; i <= 80; i++) {
            x.push(i);
            if (i % 2 == 0) {
                y.push(-i);
            }
            x.allScores();
            y.allScores();
        }
        x.wholeState();
        y.wholeState();
    }

    private static void creatingAffectsNoOther() {
        for (int pushes = 0; pushes <= 64; pushes++) {
            Twin x = new Twin(check, "older object, " + pushes + " pushed");
            for (int i = 1; i <= pushes; i++) {
                x.push(300 * i);
            }
            AmdfPitch made = new AmdfPitch();
            x.best();
            x.wholeState();
            check.due("bestLag() of the newer object", made.bestLag(), 2);
        }
    }

    private static void usingAffectsNoOther() {
        AmdfPitch early = new AmdfPitch();
        AmdfPitch used = new AmdfPitch();
        for (int i = 0; i < 100; i++) {
            used.push((short) (i * 331));
            used.scoreAt(i % 20);
            used.bestLag();
        }
        unused("made before", early);
        unused("made after", new AmdfPitch());
    }

    private static void unused(String name, AmdfPitch x) {
        check.due(name + ": bestLag()", x.bestLag(), 2);
        for (int lag = 2; lag <= 15; lag++) {
            check.due(name + ": scoreAt(" + lag + ")", x.scoreAt(lag), 0);
        }
        for (int i = 1; i <= 32; i++) {
            check.due(name + ": push no. " + i, x.push((short) i), 0);
        }
        check.due(name + ": push no. 33", x.push((short) 0), 1);
    }
}
