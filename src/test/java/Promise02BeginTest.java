final class Promise02BeginTest implements Answers {
    public static void main(String[] args) {
        countsOpen();
        endsAtMaxBegun();
        noMoreGoesBeforeFull();
        changesNothingElse();
        Check.finish();
    }

    private static void countsOpen() {
        Run r = new Run("open ones", 3, 2);
        r.beginAll(1, 3);
        r.begin(FULL);
        r.status(4, NONE);
        r.read(1, 1, 0);
        r.write(2, 1, 4, DONE);
        r.read(3, 1, 4);
        r.commit(3, 0);
        r.status(3, WAITING);
        r.begin(FULL);
        r.commit(2, 2);
        r.status(2, COMMITTED);
        r.status(3, COMMITTED);
        r.begin(FULL);
        r.abort(1, 1);
        r.status(2, SETTLED);
        r.status(3, SETTLED);
        r.beginAll(4, 6);
        r.begin(FULL);
        r.abort(5, 1);
        r.begin(7);
        r.begin(FULL);
    }

    private static void endsAtMaxBegun() {
        Run r = new Run("64 begun", 2, 1);
        for (int t = 1; t <= MAX_BEGUN; t++) {
            r.begin(t);
            r.status(t, ACTIVE);
            if (t < MAX_BEGUN) {
                r.commit(t, 1);
            }
        }
        r.begin(NO_MORE);
        r.status(MAX_BEGUN, ACTIVE);
        r.status(MAX_BEGUN + 1, NONE);
        r.write(MAX_BEGUN, 0, 3, DONE);
        r.writer(0, MAX_BEGUN);
        r.commit(MAX_BEGUN, 1);
        r.settledAt(MAX_BEGUN - 1, MAX_BEGUN);
        r.begin(NO_MORE);
    }

    private static void noMoreGoesBeforeFull() {
        Run r = new Run("64 begun and full", 2, 1);
        for (int t = 1; t <= MAX_BEGUN - 2; t++) {
            r.begin(t);
            r.abort(t, 1);
        }
        r.begin(MAX_BEGUN - 1);
        r.begin(MAX_BEGUN);
        r.begin(NO_MORE);
    }

    private static void changesNothingElse() {
        Run r = new Run("begin alone", 4, 2);
        r.beginAll(1, 2);
        r.read(1, 0, 0);
        r.write(2, 0, 8, DONE);
        r.commit(2, 1);
        r.begin(3);
        r.status(1, ACTIVE);
        r.status(2, COMMITTED);
        r.status(3, ACTIVE);
        r.value(0, 8);
        r.writer(0, 2);
        r.settledAt(0, 0);
        r.opsLeft(126);
        for (int x = 0; x < 2; x++) {
            r.access(3, x, 0);
            r.written(3, x, NOT_WRITTEN);
        }
        for (int t = 1; t <= 3; t++) {
            r.before(3, t, 0);
            r.before(t, 3, 0);
            r.waitsFor(3, t, 0);
            r.waitsFor(t, 3, 0);
        }
    }
}
