import java.util.Set;
import java.util.TreeSet;

/**
 * A new scheduler whose calls each bear, as last argument, the answer that is due. Each call that is due
 * to be refused is also held to change nothing.
 */
final class Run implements Answers {
    private final String name;
    private final GraphScheduler scheduler;

    Run(int slots, int items) {
        name = "(" + slots + ", " + items + "): ";
        scheduler = new GraphScheduler(slots, items);
    }

    GraphScheduler scheduler() {
        return scheduler;
    }

    Picture picture() {
        return new Picture(scheduler);
    }

    /** Holds that since the picture was taken these calls have other answers, and no others have. */
    void changedSince(Picture earlier, String... calls) {
        Set<String> changed = picture().differences(earlier);
        Set<String> missing = new TreeSet<>(Set.of(calls));
        missing.removeAll(changed);
        changed.removeAll(Set.of(calls));
        none("answers that changed", changed);
        none("answers that did not change", missing);
    }

    /** Holds that since the picture was taken no answer has changed but those about transaction t. */
    void onlyChangedSince(Picture earlier, int t) {
        Set<String> changed = picture().differences(earlier);
        changed.removeIf(call -> call.matches("(status|access|written)\\(" + t + "\\b.*")
                || call.matches("(before|waitsFor)\\(.*\\b" + t + "\\b.*"));
        none("answers that changed", changed);
    }

    private void none(String what, Set<String> calls) {
        Check.due(name + what + " " + calls + ": the number of them", calls.size(), 0);
    }

    private interface Call {
        int answer();
    }

    /** Makes a call of one of the six methods that can change something. */
    private void change(String text, Call call, int want) {
        boolean refused = want < 0 && want != CYCLE;
        Picture earlier = refused ? picture() : null;
        due(text, call.answer(), want);
        if (refused) {
            none("answers changed by the refused " + text, picture().differences(earlier));
        }
    }

    private void due(String text, int got, int want) {
        Check.due(name + text, got, want);
    }

    void begin(int want) {
        change("begin()", () -> scheduler.begin(), want);
    }

    /** Begins transactions up to number last, from number first on. */
    void beginAll(int first, int last) {
        for (int t = first; t <= last; t++) {
            begin(t);
        }
    }

    void read(int t, int x, int want) {
        change("read(" + t + ", " + x + ")", () -> scheduler.read(t, x), want);
    }

    void write(int t, int x, int v, int want) {
        change("write(" + t + ", " + x + ", " + v + ")", () -> scheduler.write(t, x, v), want);
    }

    void add(int t, int x, int d, int want) {
        change("add(" + t + ", " + x + ", " + d + ")", () -> scheduler.add(t, x, d), want);
    }

    void commit(int t, int want) {
        change("commit(" + t + ")", () -> scheduler.commit(t), want);
    }

    void abort(int t, int want) {
        change("abort(" + t + ")", () -> scheduler.abort(t), want);
    }

    void status(int t, int want) {
        due("status(" + t + ")", scheduler.status(t), want);
    }

    /** The statuses of transactions 1, 2, 3, .. */
    void statuses(int... want) {
        for (int t = 1; t <= want.length; t++) {
            status(t, want[t - 1]);
        }
    }

    void value(int x, int want) {
        due("value(" + x + ")", scheduler.value(x), want);
    }

    void writer(int x, int want) {
        due("writer(" + x + ")", scheduler.writer(x), want);
    }

    void settledValue(int x, int want) {
        due("settledValue(" + x + ")", scheduler.settledValue(x), want);
    }

    void before(int t, int u, int want) {
        due("before(" + t + ", " + u + ")", scheduler.before(t, u), want);
    }

    void waitsFor(int t, int u, int want) {
        due("waitsFor(" + t + ", " + u + ")", scheduler.waitsFor(t, u), want);
    }

    void access(int t, int x, int want) {
        due("access(" + t + ", " + x + ")", scheduler.access(t, x), want);
    }

    void written(int t, int x, int want) {
        due("written(" + t + ", " + x + ")", scheduler.written(t, x), want);
    }

    void settledAt(int k, int want) {
        due("settledAt(" + k + ")", scheduler.settledAt(k), want);
    }

    /** The whole settled order: these transactions and no more. */
    void settledOrder(int... want) {
        for (int k = 0; k < want.length; k++) {
            settledAt(k, want[k]);
        }
        settledAt(want.length, 0);
    }

    void opsLeft(int want) {
        due("opsLeft()", scheduler.opsLeft(), want);
    }

    /** Fills the log with reads of t on x until this many operations are left. */
    void readUntilLeft(int t, int x, int value, int left) {
        for (int calls = 0; calls < MAX_OPS && scheduler.opsLeft() > left; calls++) {
            read(t, x, value);
        }
        opsLeft(left);
    }
}
