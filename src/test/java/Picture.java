import java.util.LinkedHashMap;
import java.util.Map;
import java.util.Set;
import java.util.TreeSet;

/** The answers of every getter at one moment, to be compared with those of another moment or object. */
final class Picture implements Answers {
    private final Map<String, Integer> answers = new LinkedHashMap<>();

    Picture(GraphScheduler s) {
        int last = 0;
        for (int n = -1; n <= MAX_BEGUN + 1; n++) {
            answers.put("status(" + n + ")", s.status(n));
            answers.put("settledAt(" + n + ")", s.settledAt(n));
            last = s.status(n) == NONE ? last : n;
        }
        answers.put("opsLeft()", s.opsLeft());
        for (int x = -1; x <= 8; x++) {
            answers.put("value(" + x + ")", s.value(x));
            answers.put("writer(" + x + ")", s.writer(x));
            answers.put("settledValue(" + x + ")", s.settledValue(x));
        }
        for (int t = 0; t <= last + 1; t++) {
            takeTransaction(s, t, last);
        }
    }

    private void takeTransaction(GraphScheduler s, int t, int last) {
        for (int x = -1; x <= 8; x++) {
            answers.put("access(" + t + ", " + x + ")", s.access(t, x));
            answers.put("written(" + t + ", " + x + ")", s.written(t, x));
        }
        for (int u = 0; u <= last + 1; u++) {
            answers.put("before(" + t + ", " + u + ")", s.before(t, u));
            answers.put("waitsFor(" + t + ", " + u + ")", s.waitsFor(t, u));
        }
    }

    /** The calls of both pictures that have other answers in the other one. */
    Set<String> differences(Picture other) {
        Set<String> calls = new TreeSet<>(answers.keySet());
        calls.retainAll(other.answers.keySet());
        calls.removeIf(call -> answers.get(call).equals(other.answers.get(call)));
        return calls;
    }
}
