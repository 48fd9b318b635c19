/** A finder and its history, pushed together: each answer is compared with the history's. */
final class Twin {
    final AmdfPitch finder = new AmdfPitch();
    final History history = new History();
    private final Check check;
    private final String name;

    Twin(Check check, String name) {
        this.check = check;
        this.name = name;
    }

    void push(int s) {
        check.due(name + ": push(" + s + ")", finder.push((short) s), history.push((short) s));
    }

    void score(int lag) {
        check.due(name + ": scoreAt(" + lag + ")", finder.scoreAt(lag), history.score(lag));
    }

    void allScores() {
        for (int lag = 2; lag <= 15; lag++) {
            score(lag);
        }
    }

    void best() {
        check.due(name + ": bestLag()", finder.bestLag(), history.best());
    }

    /** Compares all that can be told of the state: every score, then every entry of the ring. */
    void wholeState() {
        allScores();
        for (int i = 0; i < 32; i++) {
            push(0);
        }
    }

    @Override
    public String toString() {
        return name;
    }
}
