final class Promise04WriteTest implements Answers {
    public static void main(String[] args) {
        refusals();
        noOps();
        stores();
        ordersAfterEarlierEntries();
        cycleByLaterRead();
        cycleByLaterWrite();
        cycleTakesReadersAndSettles();
        Check.finish();
    }

    private static void refusals() {
        Run r = new Run("refusals", 4, 2);
        r.write(1, 0, 0, NO_TXN);
        r.beginAll(1, 4);
        for (int t : new int[] {LOW, -1, 0, 5, HIGH}) {
            r.write(t, 0, 1, NO_TXN);
            r.write(t, 2, -1, NO_TXN);
        }
        r.write(1, 0, 1, DONE);
        r.read(2, 0, 1);
        r.commit(2, 0);
        r.abort(3, 1);
        r.commit(4, 1);
        for (int t = 2; t <= 4; t++) {
            r.write(t, 0, 1, NOT_ACTIVE);
            r.write(t, 2, -1, NOT_ACTIVE);
        }
        for (int x : new int[] {LOW, -1, 2, HIGH}) {
            r.write(1, x, 1, NO_ITEM);
            r.write(1, x, 1000, NO_ITEM);
        }
        for (int v : new int[] {LOW, -1, 1000, HIGH}) {
            r.write(1, 0, v, BAD_VALUE);
        }
        r.value(0, 1);
        r.opsLeft(126);
        r.status(1, ACTIVE);
    }

    private static void noOps() {
        Run r = new Run("log full", 3, 2);
        r.beginAll(1, 3);
        r.read(1, 0, 0);
        r.write(2, 0, 5, DONE);
        r.commit(3, 1);
        r.readUntilLeft(2, 0, 5, 1);
        r.write(2, 1, 6, DONE);
        r.write(2, 1, 7, NO_OPS);
        r.write(2, 1, 1000, BAD_VALUE);
        r.write(2, 2, 1000, NO_ITEM);
        r.write(3, 0, 1, NOT_ACTIVE);
        // This write would close a cycle, but a full log is a refusal and goes first.
        r.write(1, 0, 1, NO_OPS);
        r.status(1, ACTIVE);
        r.value(1, 6);
        r.value(0, 5);
        r.opsLeft(0);
    }

    private static void stores() {
        Run r = new Run("stores", 3, 2);
        r.beginAll(1, 2);
        r.write(1, 0, 999, DONE);
        r.value(0, 999);
        r.writer(0, 1);
        r.value(1, 0);
        r.writer(1, 0);
        r.write(1, 0, 0, DONE);
        r.value(0, 0);
        r.writer(0, 1);
        r.write(2, 0, 12, DONE);
        r.value(0, 12);
        r.writer(0, 2);
        r.written(1, 0, 0);
        r.waitsFor(2, 1, 0);
        r.before(1, 2, 1);
        r.status(1, ACTIVE);
        r.status(2, ACTIVE);
        r.opsLeft(125);
        // A write reads from nobody, so its transaction need not wait, nor abort with the other.
        r.commit(2, 1);
        r.status(2, COMMITTED);
        r.abort(1, 1);
        r.status(2, SETTLED);
        r.value(0, 12);
    }

    private static void ordersAfterEarlierEntries() {
        Run r = new Run("orders", 4, 2);
        r.beginAll(1, 4);
        r.read(1, 0, 0);
        r.read(2, 0, 0);
        r.write(3, 0, 1, DONE);
        r.before(1, 3, 1);
        r.before(2, 3, 1);
        r.before(1, 2, 0);
        r.write(4, 1, 1, DONE);
        r.before(3, 4, 0);
        r.write(4, 0, 2, DONE);
        r.before(3, 4, 1);
        r.before(1, 4, 1);
    }

    private static void cycleByLaterRead() {
        Run r = new Run("write after a later read", 2, 1);
        r.beginAll(1, 2);
        r.write(1, 0, 5, DONE);
        r.read(2, 0, 5);
        r.write(1, 0, 6, CYCLE);
        r.status(1, ABORTED);
        r.status(2, ABORTED);
        r.value(0, 0);
        r.writer(0, 0);
        r.opsLeft(126);
    }

    private static void cycleByLaterWrite() {
        Run r = new Run("write after a later write", 2, 1);
        r.beginAll(1, 2);
        r.write(1, 0, 5, DONE);
        r.write(2, 0, 6, DONE);
        r.write(1, 0, 7, CYCLE);
        r.status(1, ABORTED);
        r.status(2, ACTIVE);
        r.value(0, 6);
        r.writer(0, 2);
        r.opsLeft(126);
        r.write(2, 0, 8, DONE);
    }

    private static void cycleTakesReadersAndSettles() {
        Run r = new Run("cycle with readers", 5, 3);
        r.beginAll(1, 4);
        r.write(1, 0, 1, DONE);
        r.add(2, 0, 1, 2);
        r.add(3, 0, 1, 3);
        r.read(1, 1, 0);
        r.write(4, 1, 9, DONE);
        r.commit(4, 1);
        r.status(4, COMMITTED);
        r.write(1, 1, 8, CYCLE);
        r.status(1, ABORTED);
        r.status(2, ABORTED);
        r.status(3, ABORTED);
        r.status(4, SETTLED);
        r.value(0, 0);
        r.value(1, 9);
        r.writer(1, 0);
        r.settledAt(0, 4);
        r.opsLeft(123);
    }
}
