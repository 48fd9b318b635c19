/** Promise 2: pushing a sample. */
public final class Promise2Test {
    private static final Check check = new Check();

    public static void main(String[] args) {
        edgeSamplesComeBackSignExtended();
        everyShortComesBackAfter32();
        onlyTheOldestIsReplaced();
        theLastPushedIsTheMostRecent();
        manyPushesAgreeWithHistory();
        check.end();
    }

    private static void edgeSamplesComeBackSignExtended() {
        int[] edges = {-32768, -32767, -256, -129, -128, -1, 0, 1, 127, 128, 255, 256, 32766, 32767};
        AmdfPitch x = new AmdfPitch();
        for (int edge : edges) {
            check.due("push(" + edge + ")", x.push((short) edge), 0);
        }
        for (int i = edges.length; i < 32; i++) {
            check.due("push(9)", x.push((short) 9), 0);
        }
        for (int edge : edges) {
            check.due("push over " + edge, x.push((short) 0), edge);
        }
        check.due("push over 9", x.push((short) 0), 9);
    }

    private static void everyShortComesBackAfter32() {
        AmdfPitch x = new AmdfPitch();
        for (int s = -32768; s <= 32767 + 32; s++) {
            int want = s < -32768 + 32 ? 0 : s - 32;
            check.due("push(" + (short) s + ")", x.push((short) s), want);
        }
    }

    private static void onlyTheOldestIsReplaced() {
        // One push at each place of HEAD; the 31 others must come back as they were.
        for (int before = 32; before < 64; before++) {
            AmdfPitch x = new AmdfPitch();
            for (int i = 1; i <= before; i++) {
                x.push((short) (100 * i));
            }
            check.due("the one push", x.push((short) -5), 100 * (before - 31));
            for (int i = before - 30; i <= before; i++) {
                check.due("sample " + i + " kept", x.push((short) 1), 100 * i);
            }
            check.due("the one sample", x.push((short) 1), -5);
        }
    }

    private static void theLastPushedIsTheMostRecent() {
        // An impulse stays in a score at lag 2 for the 18 newest places and no longer.
        for (int before = 0; before < 32; before++) {
            AmdfPitch x = new AmdfPitch();
            for (int i = 0; i < before; i++) {
                x.push((short) 0);
            }
            x.push((short) 10);
            check.due("newest, after " + before, x.scoreAt(2), 10);
            x.push((short) 0);
            x.push((short) 0);
            check.due("third newest, after " + before, x.scoreAt(2), 20);
        }
    }

    private static void manyPushesAgreeWithHistory() {
        AmdfPitch x = new AmdfPitch();
        History h = new History();
        Samples samples = new Samples(2);
        for (int i = 0; i < 10000; i++) {
            short s = samples.wide();
            check.due("push no. " + i, x.push(s), h.push(s));
        }
    }
}
