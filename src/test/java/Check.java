/** Counts and prints the answers that are not as due, one sentence of the document at a time. */
final class Check {
    // A broken ring fails thousands of rows; the first few of each sentence tell enough.
    private static final int ROWS_SHOWN = 5;

    private int sentences = 0;
    private int broken = 0;
    private int rows = 0;
    private int wrongRows = 0;

    /** Runs the test of one sentence. A throw breaks that sentence and lets the others run. */
    void sentence(String words, Runnable test) {
        rows = 0;
        wrongRows = 0;
        try {
            test.run();
        } catch (RuntimeException | Error thrown) {
            wrong("threw " + thrown);
        }
        // A test that compared nothing would pass whatever the class does.
        if (rows == 0) {
            wrong("nothing was compared");
        }
        sentences++;
        if (wrongRows != 0) {
            broken++;
            System.out.println("BROKEN, " + wrongRows + " rows: " + words);
        }
    }

    void due(String call, long got, long want) {
        rows++;
        if (got != want) {
            wrong(call + " answered " + got + ", due is " + want);
        }
    }

    void holds(String what, boolean truth) {
        rows++;
        if (!truth) {
            wrong("does not hold: " + what);
        }
    }

    void end() {
        System.out.println(sentences + " sentences, " + broken + " broken");
        if (broken != 0 || sentences == 0) {
            System.exit(1);
        }
    }

    private void wrong(String row) {
        wrongRows++;
        if (wrongRows <= ROWS_SHOWN) {
            System.out.println("  " + row);
        }
    }
}
