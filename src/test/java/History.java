import java.util.ArrayList;
import java.util.List;

/**
 * What the document promises, told without a ring: it keeps every sample ever
 * pushed, so a fault in wrapping an index cannot be shared with the class.
 */
final class History {
    private final List<Integer> pushed = new ArrayList<>();

    /** The sample pushed that many pushes ago (1 is the newest), or 0 if there is none. */
    int sample(int back) {
        int at = pushed.size() - back;
        return at < 0 ? 0 : pushed.get(at);
    }

    int push(int s) {
        int answer = sample(32);
        pushed.add(s);
        return answer;
    }

    int score(int lag) {
        if (lag < 2 || lag > 15) {
            return -1;
        }
        int sum = 0;
        for (int j = 1; j <= 16; j++) {
            sum += Math.abs(sample(j) - sample(j + lag));
        }
        return sum;
    }

    int best() {
        int least = Integer.MAX_VALUE;
        for (int lag = 2; lag <= 15; lag++) {
            least = Math.min(least, score(lag));
        }
        int lag = 2;
        while (score(lag) != least) {
            lag++;
        }
        return lag;
    }
}
