final class Promise13WaitsForTest implements Answers {
    public static void main(String[] args) {
        Check.part("Promise 13: waitsFor");
        Check.sentence("waitsFor(t, u), refusals in order:", Promise13WaitsForTest::refusalsInOrder);
        Check.sentence("t < 1 or t > begun or u < 1 or u > begun: NO_TXN.", Promise13WaitsForTest::noTransaction);
        Check.sentence("t or u is not open: NOT_OPEN.", Promise13WaitsForTest::notOpen);
        Check.sentence("1 if u is unfinished and t has read from u (directly)",
                Promise13WaitsForTest::unfinishedSource);
        Check.sentence("1 if u is unfinished and t has read from u (directly)", Promise13WaitsForTest::severalSources);
        Check.sentence("(directly)", Promise13WaitsForTest::directly);
        Check.sentence("else 0", Promise13WaitsForTest::finishedSource);
        Check.sentence("else 0", Promise13WaitsForTest::comingAfterIsNotReading);
        Check.sentence("The answer can be 1 while t is still ACTIVE.", Promise13WaitsForTest::whileActive);
        Check.sentence("It is 0 if t is u.", Promise13WaitsForTest::tIsU);
        Check.sentence("It changes nothing.", Promise13WaitsForTest::changesNothing);
        Check.finish();
    }

    private static void refusalsInOrder() {
        Run r = Scenes.everyStatus();
        for (int t = 4; t <= 5; t++) {
            r.waitsFor(t, 7, NO_TXN);
            r.waitsFor(7, t, NO_TXN);
            r.waitsFor(t, 0, NO_TXN);
            r.waitsFor(0, t, NO_TXN);
        }
    }

    private static void noTransaction() {
        new Run(2, 1).waitsFor(1, 1, NO_TXN);
        Run r = Scenes.everyStatus();
        for (int t : Scenes.NOT_BEGUN) {
            r.waitsFor(t, 1, NO_TXN);
            r.waitsFor(1, t, NO_TXN);
            r.waitsFor(t, t, NO_TXN);
        }
        r = Scenes.allBegun();
        r.waitsFor(MAX_BEGUN, MAX_BEGUN + 1, NO_TXN);
        r.waitsFor(MAX_BEGUN + 1, MAX_BEGUN, NO_TXN);
        r.waitsFor(MAX_BEGUN, MAX_BEGUN, 0);
    }

    private static void notOpen() {
        Run r = Scenes.everyStatus();
        for (int t = 4; t <= 5; t++) {
            r.waitsFor(t, 1, NOT_OPEN);
            r.waitsFor(1, t, NOT_OPEN);
        }
        r.waitsFor(4, 5, NOT_OPEN);
        // It did read from 1, but is aborted now.
        r.abort(2, 1);
        r.waitsFor(2, 1, NOT_OPEN);
        r.waitsFor(3, 1, 0);
    }

    private static void unfinishedSource() {
        Run r = new Run(4, 2);
        r.beginAll(1, 3);
        r.write(1, 0, 1, DONE);
        r.read(2, 0, 1);
        r.add(2, 1, 1, 1);
        r.waitsFor(2, 1, 1);
        r.waitsFor(1, 2, 0);
        r.read(3, 1, 1);
        r.waitsFor(3, 2, 1);
        r.commit(2, 0);
        // A waiting source is unfinished too, and a waiting reader waits still.
        r.waitsFor(3, 2, 1);
        r.waitsFor(2, 1, 1);
    }

    private static void severalSources() {
        Run r = new Run(4, 2);
        r.beginAll(1, 4);
        r.write(1, 0, 1, DONE);
        r.write(2, 1, 2, DONE);
        r.read(3, 0, 1);
        r.read(3, 1, 2);
        r.waitsFor(3, 1, 1);
        r.waitsFor(3, 2, 1);
        r.waitsFor(3, 4, 0);
        r.commit(1, 1);
        r.waitsFor(3, 1, NOT_OPEN);
        r.waitsFor(3, 2, 1);
    }

    private static void directly() {
        Run r = new Run(4, 1);
        r.beginAll(1, 3);
        r.write(1, 0, 1, DONE);
        r.add(2, 0, 1, 2);
        r.add(3, 0, 1, 3);
        r.waitsFor(2, 1, 1);
        r.waitsFor(3, 2, 1);
        r.waitsFor(3, 1, 0);
    }

    private static void finishedSource() {
        Run r = new Run(5, 2);
        r.beginAll(1, 4);
        r.read(4, 0, 0);
        r.write(1, 0, 1, DONE);
        r.read(2, 0, 1);
        r.read(3, 0, 1);
        r.commit(2, 0);
        r.commit(1, 2);
        // All are still open behind 4, but 1 is finished.
        r.statuses(COMMITTED, COMMITTED, ACTIVE, ACTIVE);
        r.waitsFor(2, 1, 0);
        r.waitsFor(3, 1, 0);
        // Reading from it now makes no relation either.
        r.read(3, 0, 1);
        r.waitsFor(3, 1, 0);
        r.commit(3, 1);
    }

    private static void comingAfterIsNotReading() {
        Run r = Scenes.everyStatus();
        r.before(1, 3, 1);
        r.waitsFor(3, 1, 0);
        r.waitsFor(3, 2, 0);
        r.waitsFor(1, 6, 0);
        r.waitsFor(6, 1, 0);
    }

    private static void whileActive() {
        Run r = new Run(3, 1);
        r.beginAll(1, 2);
        r.write(1, 0, 1, DONE);
        r.read(2, 0, 1);
        r.status(2, ACTIVE);
        r.waitsFor(2, 1, 1);
        r.commit(2, 0);
        r.status(2, WAITING);
        r.waitsFor(2, 1, 1);
    }

    private static void tIsU() {
        Run r = Scenes.everyStatus();
        r.read(6, 1, 44);
        r.write(6, 2, 9, DONE);
        r.read(6, 2, 9);
        r.add(6, 2, 1, 10);
        for (int t : new int[] {1, 2, 3, 6}) {
            r.waitsFor(t, t, 0);
        }
        for (int t = 4; t <= 5; t++) {
            r.waitsFor(t, t, NOT_OPEN);
        }
        r.waitsFor(0, 0, NO_TXN);
        r.waitsFor(7, 7, NO_TXN);
    }

    private static void changesNothing() {
        Run r = Scenes.everyStatus();
        Picture earlier = r.picture();
        for (int t : new int[] {LOW, 0, 1, 2, 3, 4, 5, 6, 7, HIGH}) {
            r.waitsFor(t, 8, NO_TXN);
            r.scheduler().waitsFor(t, 1);
            r.scheduler().waitsFor(6, t);
        }
        r.changedSince(earlier);
        // Asking whether one waits makes none wait.
        r.commit(6, 1);
    }
}
