/** The edges that read, write and add have alike, tested for one of the three. */
final class OperationEdges implements Answers {
    /** The operation as a call of Run; for a read the value means nothing. */
    interface Operation {
        void run(Run r, int t, int x, int v, int want);
    }

    private final Operation operation;

    OperationEdges(Operation operation) {
        this.operation = operation;
    }

    void noTransaction() {
        operation.run(new Run(2, 1), 1, 0, 1, NO_TXN);
        Run r = Scenes.everyStatus();
        for (int t : Scenes.NOT_BEGUN) {
            operation.run(r, t, 0, 1, NO_TXN);
        }
        operation.run(Scenes.allBegun(), MAX_BEGUN + 1, 0, 1, NO_TXN);
    }

    void notActive() {
        Run r = Scenes.everyStatus();
        for (int t = 2; t <= 5; t++) {
            operation.run(r, t, 0, 1, NOT_ACTIVE);
        }
    }

    void noItem() {
        Run r = Scenes.everyStatus();
        for (int x : Scenes.BAD_ITEMS) {
            operation.run(r, 6, x, 1, NO_ITEM);
        }
    }

    /** For write and add alone. */
    void badValue() {
        Run r = Scenes.everyStatus();
        for (int v : Scenes.BAD_VALUES) {
            operation.run(r, 6, 2, v, BAD_VALUE);
        }
    }

    void refusalsInOrder() {
        Run r = Scenes.everyStatusAndLogFull();
        operation.run(r, 7, 3, 1, NO_TXN);
        operation.run(r, 7, 0, 1, NO_TXN);
        operation.run(r, 2, 3, 1, NOT_ACTIVE);
        operation.run(r, 2, 0, 1, NOT_ACTIVE);
        operation.run(r, 6, 3, 1, NO_ITEM);
        operation.run(r, 6, 0, 1, NO_OPS);
        r = Scenes.everyStatus();
        operation.run(r, 7, 3, 1, NO_TXN);
        operation.run(r, 5, 3, 1, NOT_ACTIVE);
    }

    /** For write and add alone. */
    void refusalsInOrderWithBadValues() {
        refusalsInOrderWithBadValues(Scenes.everyStatus());
        refusalsInOrderWithBadValues(Scenes.everyStatusAndLogFull());
    }

    private void refusalsInOrderWithBadValues(Run r) {
        operation.run(r, 7, 3, 1000, NO_TXN);
        operation.run(r, 7, 0, -1, NO_TXN);
        operation.run(r, 2, 3, 1000, NOT_ACTIVE);
        operation.run(r, 2, 0, -1, NOT_ACTIVE);
        operation.run(r, 6, 3, 1000, NO_ITEM);
        operation.run(r, 6, 0, -1, BAD_VALUE);
        // With a good value, and room in the log, this one would close a cycle.
        operation.run(r, 1, 0, 1000, BAD_VALUE);
        r.status(1, ACTIVE);
    }

    void logFullBeforeCycle() {
        Run r = Scenes.everyStatusAndLogFull();
        operation.run(r, 1, 0, 1, NO_OPS);
        r.status(1, ACTIVE);
    }

    void cycleIsTheAnswer() {
        Run r = Scenes.everyStatus();
        operation.run(r, 1, 0, 1, CYCLE);
        operation.run(r, 1, 0, 1, NOT_ACTIVE);
    }

    void cycleIsNotEntered() {
        Run r = Scenes.everyStatus();
        r.readUntilLeft(6, 1, 44, 1);
        operation.run(r, 1, 0, 7, CYCLE);
        r.opsLeft(1);
        r.value(0, 33);
        r.statuses(ABORTED, ABORTED, SETTLED, SETTLED, ABORTED, ACTIVE);
        r.settledValue(0, 33);
    }

    void cycleAddsNoReading() {
        Run r = new Run(4, 2);
        r.beginAll(1, 3);
        r.read(1, 0, 0);
        r.write(2, 0, 3, DONE);
        r.write(2, 1, 4, DONE);
        operation.run(r, 1, 1, 1, CYCLE);
        // Had 1 read from 2, it would be counted with it, or have taken it along.
        r.statuses(ABORTED, ACTIVE, ACTIVE);
        r.abort(2, 1);
    }

    /** For write and add alone, since a read meets no read. */
    void cycleByLaterRead() {
        Run r = new Run(2, 1);
        r.beginAll(1, 2);
        r.write(1, 0, 5, DONE);
        r.read(2, 0, 5);
        operation.run(r, 1, 0, 6, CYCLE);
        r.statuses(ABORTED, ABORTED);
        r.value(0, 0);
        r.writer(0, 0);
    }

    void cycleByLaterWrite() {
        Run r = new Run(2, 1);
        r.beginAll(1, 2);
        r.write(1, 0, 5, DONE);
        r.write(2, 0, 6, DONE);
        operation.run(r, 1, 0, 7, CYCLE);
        r.statuses(ABORTED, ACTIVE);
        r.value(0, 6);
        r.writer(0, 2);
        r.write(2, 0, 8, DONE);
    }

    void cycleByLaterAdd() {
        Run r = new Run(2, 2);
        r.beginAll(1, 2);
        r.read(1, 0, 0);
        r.add(2, 0, 6, 6);
        r.add(2, 1, 7, 7);
        operation.run(r, 1, 1, 7, CYCLE);
        r.statuses(ABORTED, ACTIVE);
        r.value(1, 7);
    }

    void cycleOfFour() {
        Run r = new Run(4, 4);
        r.beginAll(1, 4);
        r.read(4, 0, 0);
        r.write(3, 0, 1, DONE);
        r.read(3, 1, 0);
        r.write(1, 1, 2, DONE);
        r.read(1, 2, 0);
        r.write(2, 2, 3, DONE);
        r.write(2, 3, 5, DONE);
        r.before(4, 2, 1);
        operation.run(r, 4, 3, 1, CYCLE);
        r.statuses(ACTIVE, ACTIVE, ACTIVE, ABORTED);
        r.value(3, 5);
    }
}
