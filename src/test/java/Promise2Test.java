/** Promise 2: pushing a sample, one test for each sentence. */
public final class Promise2Test {
    private static final Check check = new Check();

    public static void main(String[] args) {
        check.sentence("Answers the sample that stood in RING[HEAD] before this call",
            Promise2Test::answersWhatStoodBefore);
        check.sentence("The answer therefore lies in -32768..32767",
            Promise2Test::everyShortComesBack);
        check.sentence("a stored -1 comes back as the `int` -1, a stored -32768 comes back as the `int` -32768",
            Promise2Test::negativesComeBackSignExtended);
        check.sentence("Stores `s` into RING[HEAD], replacing that sample.",
            Promise2Test::storesOverWhatStood);
        check.sentence("When HEAD was 31, it becomes 0 (wrap-around)",
            Promise2Test::headWrapsAfter31);
        check.sentence("otherwise it grows by one",
            Promise2Test::headGrowsByOne);
        check.sentence("`push` is never refused: there is no full or empty condition.",
            Promise2Test::neverRefused);
        check.sentence("The ring always holds exactly 32 samples, and each push overwrites the slot holding the oldest one.",
            Promise2Test::holds32AndOverwritesTheOldest);
        check.sentence("once at least 32 samples have been pushed, the answer of `push` is the sample pushed exactly 32 pushes earlier",
            Promise2Test::answersTheSample32Earlier);
        check.sentence("before that, the answer is 0 from the initial contents",
            Promise2Test::answersZeroBefore32);
        check.sentence("the other 31 entries of RING are left exactly as they were",
            Promise2Test::theOthersAreLeft);
        check.sentence("After the call, the sample just stored sits at RING[(HEAD - 1) & 31]",
            Promise2Test::theLastPushedIsTheMostRecent);
        check.sentence("`push` never throws.",
            Promise2Test::neverThrows);
        check.end();
    }

    private static void answersWhatStoodBefore() {
        AmdfPitch x = new AmdfPitch();
        check.due("push(8) on a fresh ring", x.push((short) 8), 0);
        for (int i = 0; i < 31; i++) {
            x.push((short) 3);
        }
        check.due("push(9) over 8", x.push((short) 9), 8);
        check.due("push(9) over 3", x.push((short) 9), 3);
    }

    private static void everyShortComesBack() {
        AmdfPitch x = new AmdfPitch();
        for (int s = -32768; s <= 32767 + 32; s++) {
            int want = s < -32768 + 32 ? 0 : s - 32;
            check.due("push(" + (short) s + ")", x.push((short) s), want);
        }
    }

    private static void negativesComeBackSignExtended() {
        int[] edges = {-1, -32768, -32767, -256, -255, -129, -128, -127, 0, 1, 127, 128, 255, 256, 32766, 32767};
        for (int edge : edges) {
            AmdfPitch x = new AmdfPitch();
            // At every place of the ring.
            for (int i = 0; i < 32; i++) {
                x.push((short) edge);
            }
            for (int i = 0; i < 32; i++) {
                check.due("push over " + edge + " at " + i, x.push((short) 0), edge);
            }
        }
    }

    private static void storesOverWhatStood() {
        int[] old = {-32768, -1, 0, 1, 32767};
        for (int before : old) {
            for (int after : old) {
                AmdfPitch x = new AmdfPitch();
                for (int i = 0; i < 32; i++) {
                    x.push((short) before);
                }
                for (int i = 0; i < 32; i++) {
                    x.push((short) after);
                }
                for (int i = 0; i < 32; i++) {
                    check.due(after + " stored over " + before, x.push((short) 0), after);
                }
            }
        }
    }

    private static void headWrapsAfter31() {
        AmdfPitch x = new AmdfPitch();
        for (int i = 0; i <= 31; i++) {
            x.push((short) (500 + i));
        }
        // The 32nd push was made with HEAD 31, so the next one meets entry 0, and not the one past the end.
        check.due("push at HEAD 0", x.push((short) -1), 500);
        check.due("push at HEAD 1", x.push((short) -2), 501);
        for (int round = 1; round <= 1000; round++) {
            for (int i = 2; i <= 31; i++) {
                x.push((short) i);
            }
            check.due("HEAD 0, round " + round, x.push((short) -1), -1);
            check.due("HEAD 1, round " + round, x.push((short) -2), -2);
        }
    }

    private static void headGrowsByOne() {
        AmdfPitch x = new AmdfPitch();
        for (int i = 0; i <= 31; i++) {
            x.push((short) (500 + i));
        }
        for (int i = 0; i <= 31; i++) {
            check.due("push at HEAD " + i, x.push((short) 0), 500 + i);
        }
    }

    private static void neverRefused() {
        States.each(check, t -> {
            t.push(12345);
            t.allScores();
            for (int i = 1; i < 32; i++) {
                t.finder.push((short) 0);
            }
            check.due(t + ": the sample pushed", t.finder.push((short) 0), 12345);
        });
    }

    private static void holds32AndOverwritesTheOldest() {
        for (int pushes = 32; pushes <= 100; pushes++) {
            AmdfPitch x = new AmdfPitch();
            for (int i = 1; i <= pushes; i++) {
                x.push((short) i);
            }
            for (int i = 0; i < 32; i++) {
                check.due("sample " + i + " of the 32, " + pushes + " pushed", x.push((short) -7), pushes - 31 + i);
            }
            check.due("no 33rd sample, " + pushes + " pushed", x.push((short) 0), -7);
        }
    }

    private static void answersTheSample32Earlier() {
        AmdfPitch x = new AmdfPitch();
        for (int i = 1; i <= 32; i++) {
            x.push((short) (10 * i));
        }
        check.due("push no. 33", x.push((short) 330), 10);
        check.due("push no. 34", x.push((short) 340), 20);
        Twin twin = new Twin(check, "wide");
        Samples samples = new Samples(2);
        for (int i = 0; i < 10000; i++) {
            twin.push(samples.wide());
        }
    }

    private static void answersZeroBefore32() {
        AmdfPitch x = new AmdfPitch();
        for (int i = 1; i <= 32; i++) {
            check.due("push no. " + i, x.push((short) (i % 2 == 0 ? -i : i)), 0);
        }
        check.due("push no. 33", x.push((short) 0), 1);
    }

    private static void theOthersAreLeft() {
        // One push at each place of HEAD, the ring not yet full in the first 32.
        for (int before = 0; before < 64; before++) {
            AmdfPitch x = new AmdfPitch();
            for (int i = 1; i <= before; i++) {
                x.push((short) (100 * i));
            }
            x.push((short) -5);
            for (int i = before - 30; i <= before; i++) {
                check.due("sample " + i + " of " + before + " left", x.push((short) 1), i < 1 ? 0 : 100 * i);
            }
            check.due("the one sample", x.push((short) 1), -5);
        }
    }

    private static void theLastPushedIsTheMostRecent() {
        // An impulse counts at lag 2 once while it is the newest or the next, twice from the third place on.
        for (int before = 0; before < 64; before++) {
            AmdfPitch x = new AmdfPitch();
            for (int i = 0; i < before; i++) {
                x.push((short) 0);
            }
            x.push((short) 10);
            check.due("newest, after " + before, x.scoreAt(2), 10);
            x.push((short) 0);
            check.due("next to newest, after " + before, x.scoreAt(2), 10);
            x.push((short) 0);
            check.due("third newest, after " + before, x.scoreAt(2), 20);
        }
    }

    private static void neverThrows() {
        for (int head = 0; head < 32; head++) {
            AmdfPitch x = new AmdfPitch();
            for (int i = 0; i < head; i++) {
                x.push((short) 1);
            }
            // Each turn of head starts one place further on, so every value meets every HEAD.
            for (int s = -32768; s <= 32767; s++) {
                x.push((short) s);
            }
            check.due("push after every value from HEAD " + head, x.push((short) 0), 32767 - 31);
        }
    }
}
