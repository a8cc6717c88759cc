/** A new scheduler whose calls each bear, as last argument, the answer that is due. */
final class Run {
    private final String name;
    private final GraphScheduler scheduler;

    Run(String name, int slots, int items) {
        this.name = name;
        this.scheduler = new GraphScheduler(slots, items);
    }

    private void due(String call, int got, int want) {
        Check.due(name + ": " + call, got, want);
    }

    void begin(int want) {
        due("begin()", scheduler.begin(), want);
    }

    /** Begins transactions up to number last, from number first on. */
    void beginAll(int first, int last) {
        for (int t = first; t <= last; t++) {
            begin(t);
        }
    }

    void read(int t, int x, int want) {
        due("read(" + t + ", " + x + ")", scheduler.read(t, x), want);
    }

    void write(int t, int x, int v, int want) {
        due("write(" + t + ", " + x + ", " + v + ")", scheduler.write(t, x, v), want);
    }

    void add(int t, int x, int d, int want) {
        due("add(" + t + ", " + x + ", " + d + ")", scheduler.add(t, x, d), want);
    }

    void commit(int t, int want) {
        due("commit(" + t + ")", scheduler.commit(t), want);
    }

    void abort(int t, int want) {
        due("abort(" + t + ")", scheduler.abort(t), want);
    }

    void status(int t, int want) {
        due("status(" + t + ")", scheduler.status(t), want);
    }

    void value(int x, int want) {
        due("value(" + x + ")", scheduler.value(x), want);
    }

    void writer(int x, int want) {
        due("writer(" + x + ")", scheduler.writer(x), want);
    }

    void settledValue(int x, int want) {
        due("settledValue(" + x + ")", scheduler.settledValue(x), want);
    }

    void before(int t, int u, int want) {
        due("before(" + t + ", " + u + ")", scheduler.before(t, u), want);
    }

    void waitsFor(int t, int u, int want) {
        due("waitsFor(" + t + ", " + u + ")", scheduler.waitsFor(t, u), want);
    }

    void access(int t, int x, int want) {
        due("access(" + t + ", " + x + ")", scheduler.access(t, x), want);
    }

    void written(int t, int x, int want) {
        due("written(" + t + ", " + x + ")", scheduler.written(t, x), want);
    }

    void settledAt(int k, int want) {
        due("settledAt(" + k + ")", scheduler.settledAt(k), want);
    }

    void opsLeft(int want) {
        due("opsLeft()", scheduler.opsLeft(), want);
    }

    /** Fills the log with reads of t on x until this many operations are left. */
    void readUntilLeft(int t, int x, int value, int left) {
        while (scheduler.opsLeft() > left) {
            read(t, x, value);
        }
        opsLeft(left);
    }
}
