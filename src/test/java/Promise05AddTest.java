final class Promise05AddTest implements Answers {
    public static void main(String[] args) {
        refusals();
        noOps();
        storesTheSum();
        readsFrom();
        conflictsWithReadsAndWrites();
        zeroIsAnAdd();
        cycleAborts();
        Check.finish();
    }

    private static void refusals() {
        Run r = new Run("refusals", 4, 2);
        r.add(1, 0, 0, NO_TXN);
        r.beginAll(1, 4);
        for (int t : new int[] {LOW, -1, 0, 5, HIGH}) {
            r.add(t, 0, 1, NO_TXN);
            r.add(t, 2, -1, NO_TXN);
        }
        r.add(1, 0, 1, 1);
        r.read(2, 0, 1);
        r.commit(2, 0);
        r.abort(3, 1);
        r.commit(4, 1);
        for (int t = 2; t <= 4; t++) {
            r.add(t, 0, 1, NOT_ACTIVE);
            r.add(t, 2, -1, NOT_ACTIVE);
        }
        for (int x : new int[] {LOW, -1, 2, HIGH}) {
            r.add(1, x, 1, NO_ITEM);
            r.add(1, x, 1000, NO_ITEM);
        }
        for (int d : new int[] {LOW, -1, 1000, HIGH}) {
            r.add(1, 0, d, BAD_VALUE);
        }
        r.value(0, 1);
        r.opsLeft(126);
        r.status(1, ACTIVE);
    }

    private static void noOps() {
        Run r = new Run("log full", 3, 2);
        r.beginAll(1, 3);
        r.read(1, 0, 0);
        r.add(2, 0, 5, 5);
        r.commit(3, 1);
        r.readUntilLeft(2, 0, 5, 1);
        r.add(2, 1, 6, 6);
        r.add(2, 1, 7, NO_OPS);
        r.add(2, 1, 1000, BAD_VALUE);
        r.add(2, 2, 1000, NO_ITEM);
        r.add(3, 0, 1, NOT_ACTIVE);
        // This add would close a cycle, but a full log is a refusal and goes first.
        r.add(1, 0, 1, NO_OPS);
        r.status(1, ACTIVE);
        r.waitsFor(1, 2, 0);
        r.value(1, 6);
        r.opsLeft(0);
    }

    private static void storesTheSum() {
        Run r = new Run("sums", 3, 2);
        r.beginAll(1, 2);
        r.add(1, 0, 999, 999);
        r.value(0, 999);
        r.writer(0, 1);
        r.add(1, 0, 1, 0);
        r.value(0, 0);
        r.writer(0, 1);
        r.add(1, 0, 998, 998);
        r.add(2, 0, 999, 997);
        r.writer(0, 2);
        r.written(1, 0, 998);
        r.written(2, 0, 997);
        r.access(2, 0, 3);
        r.value(1, 0);
        r.opsLeft(124);
        r.status(1, ACTIVE);
        r.status(2, ACTIVE);
    }

    private static void readsFrom() {
        Run r = new Run("reading from", 5, 2);
        r.beginAll(1, 4);
        r.write(1, 0, 10, DONE);
        r.add(2, 0, 5, 15);
        r.waitsFor(2, 1, 1);
        // Its own add is the last write now: a second one reads from nobody new.
        r.add(2, 0, 5, 20);
        r.waitsFor(2, 2, 0);
        r.add(3, 0, 1, 21);
        r.waitsFor(3, 2, 1);
        r.waitsFor(3, 1, 0);
        r.commit(3, 0);
        r.add(4, 0, 1, 22);
        r.waitsFor(4, 3, 1);
        r.abort(2, 3);
        r.value(0, 10);
        r.writer(0, 1);
        r.begin(5);
        r.commit(1, 1);
        r.add(5, 0, 7, 17);
        r.commit(5, 1);
        r.settledValue(0, 17);
    }

    private static void conflictsWithReadsAndWrites() {
        Run r = new Run("conflicts", 5, 2);
        r.beginAll(1, 5);
        r.read(1, 0, 0);
        r.add(2, 0, 1, 1);
        r.before(1, 2, 1);
        r.before(2, 1, 0);
        r.read(3, 0, 1);
        r.before(2, 3, 1);
        r.add(4, 0, 1, 2);
        r.before(3, 4, 1);
        r.before(2, 4, 1);
        r.write(5, 0, 0, DONE);
        r.before(4, 5, 1);
    }

    private static void zeroIsAnAdd() {
        Run r = new Run("add of 0", 3, 1);
        r.beginAll(1, 3);
        r.write(1, 0, 5, DONE);
        r.add(2, 0, 0, 5);
        r.writer(0, 2);
        r.written(2, 0, 5);
        r.access(2, 0, 3);
        r.waitsFor(2, 1, 1);
        r.opsLeft(126);
        r.read(3, 0, 5);
        r.waitsFor(3, 2, 1);
        r.waitsFor(3, 1, 0);
        r.add(1, 0, 0, CYCLE);
        r.status(3, ABORTED);
    }

    private static void cycleAborts() {
        Run r = new Run("cycle", 5, 3);
        r.beginAll(1, 4);
        r.write(1, 0, 1, DONE);
        r.read(2, 0, 1);
        r.write(2, 2, 6, DONE);
        r.read(1, 1, 0);
        r.write(3, 1, 9, DONE);
        r.commit(3, 1);
        r.write(4, 2, 5, DONE);
        // The add would read from the unfinished 4 if it were done; 4 must not be touched.
        r.add(1, 2, 1, CYCLE);
        r.status(1, ABORTED);
        r.status(2, ABORTED);
        r.status(3, SETTLED);
        r.status(4, ACTIVE);
        r.value(2, 5);
        r.writer(2, 4);
        r.value(0, 0);
        r.settledAt(0, 3);
        r.opsLeft(122);
    }
}
