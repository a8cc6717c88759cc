final class Promise08StatusTest implements Answers {
    public static void main(String[] args) {
        Check.part("Promise 8: status");
        Check.sentence("answers NONE if t < 1 or t > begun", Promise08StatusTest::none);
        Check.sentence("answers NONE if t < 1 or t > begun", Promise08StatusTest::noneBeyondTheLast);
        Check.sentence("otherwise the status of t", Promise08StatusTest::everyStatus);
        Check.sentence("otherwise the status of t", Promise08StatusTest::goesFromOneToAnother);
        Check.sentence("It changes nothing.", Promise08StatusTest::changesNothing);
        Check.finish();
    }

    private static void none() {
        new Run(2, 1).status(1, NONE);
        Run r = Scenes.everyStatus();
        for (int t : Scenes.NOT_BEGUN) {
            r.status(t, NONE);
        }
        r.begin(7);
        r.status(7, ACTIVE);
        r.status(8, NONE);
    }

    private static void noneBeyondTheLast() {
        Run r = Scenes.allBegun();
        r.status(1, ABORTED);
        r.status(MAX_BEGUN, ACTIVE);
        r.status(MAX_BEGUN + 1, NONE);
        r.status(MAX_BEGUN + 2, NONE);
    }

    private static void everyStatus() {
        Run r = Scenes.everyStatus();
        r.status(1, ACTIVE);
        r.status(2, WAITING);
        r.status(3, COMMITTED);
        r.status(4, SETTLED);
        r.status(5, ABORTED);
        r.status(6, ACTIVE);
    }

    private static void goesFromOneToAnother() {
        Run r = new Run(4, 2);
        r.beginAll(1, 3);
        r.read(3, 0, 0);
        r.write(1, 0, 1, DONE);
        r.read(2, 0, 1);
        r.statuses(ACTIVE, ACTIVE, ACTIVE);
        r.commit(2, 0);
        r.statuses(ACTIVE, WAITING, ACTIVE);
        r.commit(1, 2);
        r.statuses(COMMITTED, COMMITTED, ACTIVE);
        r.abort(3, 1);
        r.statuses(SETTLED, SETTLED, ABORTED);
    }

    private static void changesNothing() {
        Run r = Scenes.everyStatus();
        Picture earlier = r.picture();
        for (int t = 1; t <= 6; t++) {
            r.scheduler().status(t);
        }
        for (int t : Scenes.NOT_BEGUN) {
            r.status(t, NONE);
        }
        r.changedSince(earlier);
        r.begin(7);
    }
}
