/** Promise 1: construction and starting state. */
public final class Promise1Test {
    private static final Check check = new Check();

    public static void main(String[] args) {
        first32PushesAnswerZero();
        freshLagsScoreZero();
        check.due("fresh bestLag()", new AmdfPitch().bestLag(), 2);
        instancesAreApart();
        laterInstancesStartFresh();
        check.end();
    }

    private static void first32PushesAnswerZero() {
        AmdfPitch x = new AmdfPitch();
        for (int i = 1; i <= 32; i++) {
            check.due("push no. " + i, x.push((short) (1000 + i)), 0);
        }
        check.due("push no. 33", x.push((short) 5), 1001);
    }

    private static void freshLagsScoreZero() {
        AmdfPitch x = new AmdfPitch();
        for (int lag = 2; lag <= 15; lag++) {
            check.due("fresh scoreAt(" + lag + ")", x.scoreAt(lag), 0);
        }
        check.due("fresh scoreAt(1)", x.scoreAt(1), -1);
        check.due("fresh scoreAt(16)", x.scoreAt(16), -1);
    }

    private static void instancesAreApart() {
        AmdfPitch x = new AmdfPitch();
        AmdfPitch y = new AmdfPitch();
        // Unequal numbers of pushes, so that a shared HEAD would show as well as a shared RING.
        for (int i = 1; i <= 40; i++) {
            check.due("x.push no. " + i, x.push((short) i), i <= 32 ? 0 : i - 32);
            if (i % 2 == 0) {
                check.due("y.push after x no. " + i, y.push((short) -i), 0);
            }
        }
        AmdfPitch z = new AmdfPitch();
        check.due("z.bestLag()", z.bestLag(), 2);
        check.due("z.scoreAt(15)", z.scoreAt(15), 0);
        for (int i = 1; i <= 32; i++) {
            check.due("x drained " + i, x.push((short) 0), 8 + i);
            check.due("y drained " + i, y.push((short) 0), i <= 12 ? 0 : -2 * (i - 12));
            check.due("z.push no. " + i, z.push((short) 7), 0);
        }
    }

    private static void laterInstancesStartFresh() {
        AmdfPitch used = new AmdfPitch();
        for (int i = 0; i < 100; i++) {
            used.push((short) (i * 331));
        }
        first32PushesAnswerZero();
        freshLagsScoreZero();
    }
}
