import java.util.function.Consumer;

/**
 * The states in which a sentence that holds "in every state" is tried: fresh,
 * then every place of HEAD before the ring is full and twice after, over
 * samples of several kinds.
 */
final class States {
    private static final int MOST_PUSHES = 96;
    private static final String[] KINDS =
        {"zeros", "all least", "all greatest", "ends in turn", "ramp", "wide", "narrow"};

    private States() {
    }

    static void each(Check check, Consumer<Twin> test) {
        for (int kind = 0; kind < KINDS.length; kind++) {
            for (int pushes = 0; pushes <= MOST_PUSHES; pushes++) {
                test.accept(made(check, kind, pushes));
            }
        }
    }

    private static Twin made(Check check, int kind, int pushes) {
        Twin twin = new Twin(check, KINDS[kind] + ", " + pushes + " pushed");
        Samples samples = new Samples(pushes);
        for (int i = 0; i < pushes; i++) {
            short s = sample(kind, i, samples);
            // Not compared here: a sentence's own test says what it compares.
            twin.finder.push(s);
            twin.history.push(s);
        }
        return twin;
    }

    private static short sample(int kind, int i, Samples samples) {
        return switch (kind) {
            case 0 -> 0;
            case 1 -> Short.MIN_VALUE;
            case 2 -> Short.MAX_VALUE;
            case 3 -> i % 2 == 0 ? Short.MIN_VALUE : Short.MAX_VALUE;
            case 4 -> (short) (100 * (i + 1));
            case 5 -> samples.wide();
            default -> samples.narrow();
        };
    }
}
