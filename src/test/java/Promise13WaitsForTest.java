final class Promise13WaitsForTest implements Answers {
    public static void main(String[] args) {
        refusals();
        ordinary();
        notForFinishedWriters();
        byTheLastWriterAtTheTime();
        Check.finish();
    }

    private static void refusals() {
        Run r = new Run("refusals", 6, 2);
        r.waitsFor(1, 1, NO_TXN);
        r.beginAll(1, 4);
        for (int t : new int[] {LOW, -1, 0, 5, HIGH}) {
            r.waitsFor(t, 1, NO_TXN);
            r.waitsFor(1, t, NO_TXN);
            r.waitsFor(t, t, NO_TXN);
        }
        r.abort(3, 1);
        r.commit(4, 1);
        for (int t = 3; t <= 4; t++) {
            r.waitsFor(t, 1, NOT_OPEN);
            r.waitsFor(1, t, NOT_OPEN);
            r.waitsFor(t, 5, NO_TXN);
            r.waitsFor(0, t, NO_TXN);
        }
        r.waitsFor(1, 1, 0);
        r.waitsFor(1, 2, 0);
    }

    private static void ordinary() {
        Run r = new Run("ordinary", 5, 3);
        r.beginAll(1, 4);
        r.read(4, 2, 0);
        r.write(1, 2, 3, DONE);
        r.write(1, 0, 1, DONE);
        r.read(2, 0, 1);
        r.status(2, ACTIVE);
        r.waitsFor(2, 1, 1);
        r.waitsFor(1, 2, 0);
        r.add(2, 1, 1, 1);
        r.read(3, 1, 1);
        r.waitsFor(3, 2, 1);
        r.waitsFor(3, 1, 0);
        r.commit(2, 0);
        r.waitsFor(2, 1, 1);
        r.waitsFor(3, 2, 1);
        r.commit(1, 2);
        // All are still open behind 4, but 1 and 2 are finished.
        r.status(1, COMMITTED);
        r.status(2, COMMITTED);
        r.waitsFor(2, 1, 0);
        r.waitsFor(3, 2, 0);
        r.commit(3, 1);
    }

    private static void notForFinishedWriters() {
        Run r = new Run("committed writer", 4, 2);
        r.beginAll(1, 3);
        r.read(3, 0, 0);
        r.write(1, 0, 4, DONE);
        r.commit(1, 1);
        r.status(1, COMMITTED);
        r.read(2, 0, 4);
        r.waitsFor(2, 1, 0);
        r.commit(2, 1);
        r.status(2, COMMITTED);
        r.abort(3, 1);
        r.status(2, SETTLED);
    }

    private static void byTheLastWriterAtTheTime() {
        Run r = new Run("several writers", 6, 2);
        r.beginAll(1, 5);
        r.write(1, 0, 1, DONE);
        r.write(2, 0, 2, DONE);
        r.read(3, 0, 2);
        r.waitsFor(3, 2, 1);
        r.waitsFor(3, 1, 0);
        r.write(4, 0, 4, DONE);
        r.waitsFor(3, 4, 0);
        // What 4 wrote is taken back, so the next reader reads from 2.
        r.abort(4, 1);
        r.read(5, 0, 2);
        r.waitsFor(5, 2, 1);
        r.waitsFor(5, 3, 0);
        // Reading one's own write keeps what was read from others before.
        r.write(5, 0, 5, DONE);
        r.read(5, 0, 5);
        r.waitsFor(5, 2, 1);
        r.waitsFor(5, 5, 0);
    }
}
