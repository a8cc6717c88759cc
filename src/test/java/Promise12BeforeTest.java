final class Promise12BeforeTest implements Answers {
    public static void main(String[] args) {
        Check.part("Promise 12: before");
        Check.sentence("before(t, u), refusals in order:", Promise12BeforeTest::refusalsInOrder);
        Check.sentence("t < 1 or t > begun or u < 1 or u > begun: NO_TXN.", Promise12BeforeTest::noTransaction);
        Check.sentence("t or u is not open: NOT_OPEN.", Promise12BeforeTest::notOpen);
        Check.sentence("t or u is not open: NOT_OPEN.", Promise12BeforeTest::everyOpenStatus);
        Check.sentence("1 if the graph has a path from t to u", Promise12BeforeTest::paths);
        Check.sentence("1 if the graph has a path from t to u", Promise12BeforeTest::pathsThroughCommitted);
        Check.sentence("else 0", Promise12BeforeTest::noPath);
        Check.sentence("else 0", Promise12BeforeTest::noPathAfterAnAbort);
        Check.sentence("So the answer is 0 if t is u.", Promise12BeforeTest::tIsU);
        Check.sentence("It changes nothing.", Promise12BeforeTest::changesNothing);
        Check.finish();
    }

    private static void refusalsInOrder() {
        Run r = Scenes.everyStatus();
        for (int t = 4; t <= 5; t++) {
            r.before(t, 7, NO_TXN);
            r.before(7, t, NO_TXN);
            r.before(t, 0, NO_TXN);
            r.before(0, t, NO_TXN);
        }
    }

    private static void noTransaction() {
        new Run(2, 1).before(1, 1, NO_TXN);
        Run r = Scenes.everyStatus();
        for (int t : Scenes.NOT_BEGUN) {
            r.before(t, 1, NO_TXN);
            r.before(1, t, NO_TXN);
            r.before(t, t, NO_TXN);
        }
        r = Scenes.allBegun();
        r.before(MAX_BEGUN, MAX_BEGUN + 1, NO_TXN);
        r.before(MAX_BEGUN + 1, MAX_BEGUN, NO_TXN);
        r.before(MAX_BEGUN, MAX_BEGUN, 0);
    }

    private static void notOpen() {
        Run r = Scenes.everyStatus();
        for (int t = 4; t <= 5; t++) {
            r.before(t, 1, NOT_OPEN);
            r.before(1, t, NOT_OPEN);
        }
        r.before(4, 5, NOT_OPEN);
        // 6 has read what the settled 4 wrote.
        r.before(4, 6, NOT_OPEN);
    }

    private static void everyOpenStatus() {
        Run r = Scenes.everyStatus();
        r.before(1, 2, 1);
        r.before(1, 3, 1);
        r.before(2, 3, 1);
        r.before(2, 1, 0);
        r.before(3, 1, 0);
        r.before(3, 2, 0);
    }

    private static void paths() {
        Run r = new Run(5, 3);
        r.beginAll(1, 4);
        r.write(3, 0, 1, DONE);
        r.write(1, 0, 2, DONE);
        r.write(1, 1, 3, DONE);
        r.write(2, 1, 4, DONE);
        r.read(2, 2, 0);
        r.write(4, 2, 5, DONE);
        r.before(3, 1, 1);
        r.before(1, 2, 1);
        r.before(3, 2, 1);
        r.before(3, 4, 1);
        r.before(4, 3, 0);
        r.before(2, 3, 0);
        r.before(2, 1, 0);
        r.before(1, 3, 0);
    }

    private static void pathsThroughCommitted() {
        Run r = new Run(5, 2);
        r.beginAll(1, 3);
        r.read(1, 0, 0);
        r.write(2, 0, 1, DONE);
        r.write(2, 1, 2, DONE);
        r.commit(2, 1);
        r.status(2, COMMITTED);
        r.read(3, 1, 2);
        r.before(1, 3, 1);
        r.before(3, 1, 0);
    }

    private static void noPath() {
        Run r = new Run(4, 2);
        r.beginAll(1, 3);
        r.before(1, 2, 0);
        r.write(1, 0, 1, DONE);
        r.commit(1, 1);
        r.read(2, 0, 1);
        r.read(3, 0, 1);
        // Both come after the settled 1, but that orders neither against the other.
        r.before(2, 3, 0);
        r.before(3, 2, 0);
        r.write(2, 1, 5, DONE);
        r.before(2, 3, 0);
    }

    private static void noPathAfterAnAbort() {
        Run r = new Run(4, 2);
        r.beginAll(1, 3);
        r.write(1, 0, 1, DONE);
        r.write(2, 0, 2, DONE);
        r.write(2, 1, 3, DONE);
        r.write(3, 1, 4, DONE);
        r.before(1, 3, 1);
        // 2 was the only way from 1 to 3.
        r.abort(2, 1);
        r.before(1, 3, 0);
        r.before(1, 2, NOT_OPEN);
    }

    private static void tIsU() {
        Run r = Scenes.everyStatus();
        for (int t : new int[] {1, 2, 3, 6}) {
            r.before(t, t, 0);
        }
        for (int t = 4; t <= 5; t++) {
            r.before(t, t, NOT_OPEN);
        }
        r.before(0, 0, NO_TXN);
        r.before(7, 7, NO_TXN);
    }

    private static void changesNothing() {
        Run r = Scenes.everyStatus();
        Picture earlier = r.picture();
        for (int t : new int[] {LOW, 0, 1, 2, 3, 4, 5, 6, 7, HIGH}) {
            r.before(t, 8, NO_TXN);
            r.scheduler().before(t, 3);
            r.scheduler().before(1, t);
        }
        r.changedSince(earlier);
        // Asking for a path makes none: 6 may still come before 1.
        r.write(6, 2, 1, DONE);
        r.read(1, 2, 1);
    }
}
