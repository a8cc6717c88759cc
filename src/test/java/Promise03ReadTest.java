final class Promise03ReadTest implements Answers {
    public static void main(String[] args) {
        refusals();
        committedIsNotActive();
        noOps();
        answersTheCurrentValue();
        readsFrom();
        readsDoNotConflict();
        cycleAborts();
        cycleThroughSeveral();
        cycleTakesReadersAndSettles();
        Check.finish();
    }

    private static void refusals() {
        Run r = new Run("refusals", 4, 2);
        r.read(1, 0, NO_TXN);
        r.beginAll(1, 4);
        for (int t : new int[] {LOW, -1, 0, 5, 65, HIGH}) {
            r.read(t, 0, NO_TXN);
            r.read(t, -1, NO_TXN);
        }
        r.write(1, 0, 1, DONE);
        r.read(2, 0, 1);
        r.commit(2, 0);
        r.abort(3, 1);
        r.read(4, 1, 0);
        r.commit(4, 1);
        r.status(4, SETTLED);
        for (int t = 2; t <= 4; t++) {
            r.read(t, 0, NOT_ACTIVE);
            r.read(t, 2, NOT_ACTIVE);
        }
        for (int x : new int[] {LOW, -1, 2, 8, HIGH}) {
            r.read(1, x, NO_ITEM);
        }
        r.opsLeft(125);
        r.status(1, ACTIVE);
        r.commit(1, 2);
    }

    private static void committedIsNotActive() {
        Run r = new Run("committed reader", 2, 1);
        r.beginAll(1, 2);
        r.read(1, 0, 0);
        r.write(2, 0, 1, DONE);
        r.commit(2, 1);
        r.status(2, COMMITTED);
        r.read(2, 0, NOT_ACTIVE);
    }

    private static void noOps() {
        Run r = new Run("log full", 3, 2);
        r.beginAll(1, 3);
        r.read(2, 1, 0);
        r.write(1, 1, 7, DONE);
        r.write(1, 0, 5, DONE);
        r.commit(3, 1);
        r.readUntilLeft(1, 0, 5, 0);
        r.read(1, 0, NO_OPS);
        r.read(1, 2, NO_ITEM);
        r.read(3, 0, NOT_ACTIVE);
        r.read(4, 0, NO_TXN);
        // This read would close a cycle, but a full log is a refusal and goes first.
        r.read(2, 0, NO_OPS);
        r.status(2, ACTIVE);
        r.waitsFor(2, 1, 0);
        r.opsLeft(0);
    }

    private static void answersTheCurrentValue() {
        Run r = new Run("values", 4, 3);
        r.beginAll(1, 4);
        r.read(1, 0, 0);
        r.write(1, 0, 11, DONE);
        r.read(1, 0, 11);
        r.add(1, 0, 4, 15);
        r.read(2, 0, 15);
        r.write(2, 0, 20, DONE);
        r.read(3, 0, 20);
        r.read(3, 1, 0);
        r.value(0, 20);
        r.writer(0, 2);
        r.opsLeft(120);
        r.abort(2, 2);
        r.read(4, 0, 15);
        r.access(4, 0, 1);
        r.written(4, 0, NOT_WRITTEN);
        r.writer(0, 1);
    }

    private static void readsFrom() {
        Run r = new Run("reading from", 5, 3);
        r.beginAll(1, 4);
        r.write(1, 0, 1, DONE);
        r.read(1, 0, 1);
        r.waitsFor(1, 1, 0);
        r.read(2, 0, 1);
        r.waitsFor(2, 1, 1);
        r.waitsFor(1, 2, 0);
        r.write(2, 1, 2, DONE);
        r.read(3, 1, 2);
        r.waitsFor(3, 2, 1);
        r.waitsFor(3, 1, 0);
        r.commit(2, 0);
        r.read(4, 1, 2);
        r.waitsFor(4, 2, 1);
        r.commit(1, 2);
        r.waitsFor(4, 2, NOT_OPEN);
        r.begin(5);
        r.read(5, 1, 2);
        r.commit(5, 1);
    }

    private static void readsDoNotConflict() {
        Run r = new Run("two reads", 3, 2);
        r.beginAll(1, 2);
        r.read(1, 0, 0);
        r.read(2, 0, 0);
        r.read(2, 1, 0);
        r.read(1, 1, 0);
        r.before(1, 2, 0);
        r.before(2, 1, 0);
    }

    private static void cycleAborts() {
        Run r = new Run("cycle of two", 3, 2);
        r.beginAll(1, 2);
        r.read(1, 0, 0);
        r.write(2, 0, 3, DONE);
        r.write(2, 1, 4, DONE);
        r.read(1, 1, CYCLE);
        r.status(1, ABORTED);
        r.status(2, ACTIVE);
        r.opsLeft(125);
        r.read(1, 1, NOT_ACTIVE);
        r.value(0, 3);
        r.value(1, 4);
        r.commit(2, 1);
        r.settledAt(0, 2);
    }

    private static void cycleThroughSeveral() {
        Run r = new Run("cycle of four", 4, 4);
        r.beginAll(1, 4);
        r.write(4, 0, 1, DONE);
        r.read(3, 0, 1);
        r.read(3, 1, 0);
        r.write(1, 1, 2, DONE);
        r.read(1, 2, 0);
        r.write(2, 2, 3, DONE);
        r.write(2, 3, 5, DONE);
        r.before(4, 2, 1);
        r.read(4, 3, CYCLE);
        r.status(4, ABORTED);
        r.status(3, ABORTED);
        r.status(1, ACTIVE);
        r.status(2, ACTIVE);
        r.value(0, 0);
        r.opsLeft(121);
    }

    private static void cycleTakesReadersAndSettles() {
        Run r = new Run("cycle with readers", 6, 4);
        r.beginAll(1, 5);
        r.write(5, 3, 77, DONE);
        r.write(1, 0, 6, DONE);
        r.write(1, 3, 66, DONE);
        r.read(2, 0, 6);
        r.write(2, 1, 7, DONE);
        r.read(3, 1, 7);
        r.commit(3, 0);
        r.read(1, 2, 0);
        r.write(4, 2, 9, DONE);
        r.commit(4, 1);
        r.status(4, COMMITTED);
        r.read(1, 2, CYCLE);
        r.status(1, ABORTED);
        r.status(2, ABORTED);
        r.status(3, ABORTED);
        r.status(4, SETTLED);
        r.status(5, ACTIVE);
        r.settledAt(0, 4);
        r.settledValue(2, 9);
        r.value(0, 0);
        r.value(1, 0);
        r.value(3, 77);
        r.writer(3, 5);
        r.opsLeft(120);
    }
}
