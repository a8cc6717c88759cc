final class Promise03ReadTest implements Answers {
    private static final OperationEdges EDGES = new OperationEdges((r, t, x, v, want) -> r.read(t, x, want));

    public static void main(String[] args) {
        Check.part("Promise 3: read");
        Check.sentence("read(t, x): transaction t reads item x.", Promise03ReadTest::readsTheItem);
        Check.sentence("Refusals in order:", EDGES::refusalsInOrder);
        Check.sentence("t < 1 or t > begun: NO_TXN.", EDGES::noTransaction);
        Check.sentence("t is not ACTIVE: NOT_ACTIVE.", EDGES::notActive);
        Check.sentence("x < 0 or x >= items: NO_ITEM.", EDGES::noItem);
        Check.sentence("The log has MAX_OPS entries: NO_OPS.", Promise03ReadTest::logFull);
        Check.sentence("The log has MAX_OPS entries: NO_OPS.", EDGES::logFullBeforeCycle);
        Check.sentence("if the graph would have a cycle once this read were entered in the log",
                EDGES::cycleByLaterWrite);
        Check.sentence("if the graph would have a cycle once this read were entered in the log",
                EDGES::cycleByLaterAdd);
        Check.sentence("if the graph would have a cycle once this read were entered in the log", EDGES::cycleOfFour);
        Check.sentence("if the graph would have a cycle once this read were entered in the log",
                Promise03ReadTest::noCycle);
        Check.sentence("the read is not entered", EDGES::cycleIsNotEntered);
        Check.sentence("adds no reading-from", EDGES::cycleAddsNoReading);
        Check.sentence("t is aborted (aborting, with its settling)", Promise03ReadTest::cycleSettles);
        Check.sentence("and the answer is CYCLE", EDGES::cycleIsTheAnswer);
        Check.sentence("Other transactions that have read from t, directly or through others",
                Promise03ReadTest::cycleTakesReaders);
        Check.sentence("current values and last writers follow from the entries that still stand",
                Promise03ReadTest::cycleTakesValuesBack);
        Check.sentence("Otherwise the read is entered", Promise03ReadTest::entered);
        Check.sentence("reading from is noted as defined above", Promise03ReadTest::readingIsNoted);
        Check.sentence("the answer is the current value of x", Promise03ReadTest::currentValue);
        Check.sentence("by t itself or by another transaction", Promise03ReadTest::ownAndOthersValues);
        Check.sentence("0 if there is none.", Promise03ReadTest::nothingStands);
        Check.sentence("No status, value or last writer changes, and no settling is done.",
                Promise03ReadTest::nothingElseChanges);
        Check.finish();
    }

    private static void readsTheItem() {
        Run r = new Run(2, 8);
        r.begin(1);
        for (int x = 0; x < 8; x++) {
            r.write(1, x, 10 + x, DONE);
        }
        r.begin(2);
        for (int x = 0; x < 8; x++) {
            r.read(2, x, 10 + x);
        }
    }

    private static void logFull() {
        Run r = new Run(2, 1);
        r.beginAll(1, 2);
        r.write(1, 0, 5, DONE);
        r.readUntilLeft(1, 0, 5, 1);
        r.read(2, 0, 5);
        r.opsLeft(0);
        // The last entry has all that others have.
        r.access(2, 0, 1);
        r.before(1, 2, 1);
        r.waitsFor(2, 1, 1);
        r.read(1, 0, NO_OPS);
        r.read(2, 0, NO_OPS);
    }

    private static void noCycle() {
        Run r = new Run(3, 3);
        r.beginAll(1, 2);
        r.read(1, 0, 0);
        r.write(2, 0, 3, DONE);
        r.read(2, 1, 0);
        // 1 comes before 2, but a read after a read puts nobody after 2.
        r.read(1, 1, 0);
        r.read(1, 2, 0);
        // A second edge the same way is no cycle either.
        r.write(1, 2, 5, DONE);
        r.read(2, 2, 5);
        r.statuses(ACTIVE, ACTIVE);
        // It has read from 1 and comes after it: reading that again closes nothing.
        r.read(2, 2, 5);
        r.before(1, 2, 1);
        r.before(2, 1, 0);
    }

    private static void cycleSettles() {
        Run r = new Run(4, 2);
        r.beginAll(1, 3);
        r.read(1, 0, 0);
        r.write(2, 0, 9, DONE);
        r.commit(2, 1);
        r.read(3, 0, 9);
        r.commit(3, 1);
        r.statuses(ACTIVE, COMMITTED, COMMITTED);
        r.read(1, 0, CYCLE);
        r.statuses(ABORTED, SETTLED, SETTLED);
        r.settledOrder(2, 3);
        r.settledValue(0, 9);
    }

    private static void cycleTakesReaders() {
        Run r = new Run(6, 3);
        r.beginAll(1, 5);
        r.write(1, 0, 6, DONE);
        r.read(2, 0, 6);
        r.write(2, 1, 7, DONE);
        r.read(3, 1, 7);
        r.commit(3, 0);
        r.read(1, 2, 0);
        r.write(4, 2, 9, DONE);
        r.read(5, 2, 9);
        r.read(1, 2, CYCLE);
        r.statuses(ABORTED, ABORTED, ABORTED, ACTIVE, ACTIVE);
        r.abort(4, 2);
    }

    private static void cycleTakesValuesBack() {
        Run r = new Run(6, 4);
        r.beginAll(1, 4);
        r.write(4, 0, 77, DONE);
        r.write(1, 0, 66, DONE);
        r.write(1, 1, 65, DONE);
        r.add(2, 1, 1, 66);
        r.read(1, 2, 0);
        r.write(3, 2, 9, DONE);
        r.read(1, 2, CYCLE);
        r.statuses(ABORTED, ABORTED, ACTIVE, ACTIVE);
        r.value(0, 77);
        r.writer(0, 4);
        r.value(1, 0);
        r.writer(1, 0);
        r.value(2, 9);
        r.writer(2, 3);
    }

    private static void entered() {
        Run r = new Run(3, 2);
        r.beginAll(1, 2);
        r.read(1, 1, 0);
        r.opsLeft(MAX_OPS - 1);
        r.access(1, 1, 1);
        r.access(1, 0, 0);
        r.written(1, 1, NOT_WRITTEN);
        r.write(2, 1, 5, DONE);
        r.before(1, 2, 1);
    }

    private static void readingIsNoted() {
        Run r = new Run(4, 2);
        r.beginAll(1, 3);
        r.write(1, 0, 5, DONE);
        r.read(2, 0, 5);
        r.waitsFor(2, 1, 1);
        r.waitsFor(1, 2, 0);
        r.waitsFor(3, 1, 0);
        r.commit(2, 0);
        r.status(2, WAITING);
    }

    private static void currentValue() {
        Run r = new Run(6, 1);
        r.beginAll(1, 4);
        r.write(1, 0, 999, DONE);
        r.read(2, 0, 999);
        r.write(3, 0, 20, DONE);
        r.read(4, 0, 20);
        r.abort(3, 2);
        r.begin(5);
        r.read(5, 0, 999);
        r.commit(1, 1);
        r.begin(6);
        r.read(6, 0, 999);
    }

    private static void ownAndOthersValues() {
        Run r = new Run(3, 1);
        r.beginAll(1, 2);
        r.write(1, 0, 11, DONE);
        r.read(1, 0, 11);
        r.add(1, 0, 4, 15);
        r.read(1, 0, 15);
        r.read(2, 0, 15);
        r.write(2, 0, 20, DONE);
        r.read(2, 0, 20);
    }

    private static void nothingStands() {
        Run r = new Run(4, 2);
        r.beginAll(1, 3);
        r.read(1, 0, 0);
        r.read(1, 0, 0);
        r.write(2, 1, 8, DONE);
        r.abort(2, 1);
        r.read(3, 1, 0);
        r.waitsFor(3, 1, 0);
        r.commit(3, 1);
    }

    private static void nothingElseChanges() {
        Run r = Scenes.everyStatus();
        Picture earlier = r.picture();
        r.read(6, 0, 33);
        r.changedSince(earlier, "opsLeft()", "access(6, 0)", "before(1, 6)", "before(2, 6)", "before(3, 6)");
        r.begin(7);
        r.write(6, 2, 9, DONE);
        earlier = r.picture();
        r.read(7, 2, 9);
        r.changedSince(earlier, "opsLeft()", "access(7, 2)", "before(6, 7)", "before(1, 7)", "before(2, 7)",
                "before(3, 7)", "waitsFor(7, 6)");
    }
}
