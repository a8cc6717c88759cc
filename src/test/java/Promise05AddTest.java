final class Promise05AddTest implements Answers {
    private static final OperationEdges EDGES = new OperationEdges(Run::add);

    public static void main(String[] args) {
        Check.part("Promise 5: add");
        Check.sentence("as one operation that both reads and writes and makes one log entry",
                Promise05AddTest::oneEntry);
        Check.sentence("as one operation that both reads and writes", Promise05AddTest::conflictsWithReadsAndWrites);
        Check.sentence("Refusals in order:", EDGES::refusalsInOrder);
        Check.sentence("Refusals in order:", EDGES::refusalsInOrderWithBadValues);
        Check.sentence("t < 1 or t > begun: NO_TXN.", EDGES::noTransaction);
        Check.sentence("t is not ACTIVE: NOT_ACTIVE.", EDGES::notActive);
        Check.sentence("x < 0 or x >= items: NO_ITEM.", EDGES::noItem);
        Check.sentence("d < 0 or d > 999: BAD_VALUE.", EDGES::badValue);
        Check.sentence("d < 0 or d > 999: BAD_VALUE.", Promise05AddTest::goodValues);
        Check.sentence("The log has MAX_OPS entries: NO_OPS.", Promise05AddTest::logFull);
        Check.sentence("The log has MAX_OPS entries: NO_OPS.", EDGES::logFullBeforeCycle);
        Check.sentence("if the graph would have a cycle once this add were entered", EDGES::cycleByLaterRead);
        Check.sentence("if the graph would have a cycle once this add were entered", EDGES::cycleByLaterWrite);
        Check.sentence("if the graph would have a cycle once this add were entered", EDGES::cycleByLaterAdd);
        Check.sentence("if the graph would have a cycle once this add were entered", EDGES::cycleOfFour);
        Check.sentence("if the graph would have a cycle once this add were entered", Promise05AddTest::noCycle);
        Check.sentence("nothing is entered", EDGES::cycleIsNotEntered);
        Check.sentence("no reading-from is added", EDGES::cycleAddsNoReading);
        Check.sentence("t is aborted (aborting, with its settling)", Promise05AddTest::cycleTakesReadersAndSettles);
        Check.sentence("and the answer is CYCLE", EDGES::cycleIsTheAnswer);
        Check.sentence("reading from is noted by the last writer of x before the add",
                Promise05AddTest::readsFromTheWriterBefore);
        Check.sentence("reading from is noted by the last writer of x before the add",
                Promise05AddTest::readsFromNobodyNew);
        Check.sentence("stored value (c + d) % 1000", Promise05AddTest::sumsBelowTheWrap);
        Check.sentence("stored value (c + d) % 1000", Promise05AddTest::sumsThatWrap);
        Check.sentence("c being the current value of x before the add", Promise05AddTest::ownValueBefore);
        Check.sentence("c being the current value of x before the add", Promise05AddTest::othersValueBefore);
        Check.sentence("c being the current value of x before the add", Promise05AddTest::nothingStandsBefore);
        Check.sentence("The answer is the stored value.", Promise05AddTest::answerIsTheStoredValue);
        Check.sentence("The current value of x is then that value and its last writer is t.",
                Promise05AddTest::currentValueAndLastWriter);
        Check.sentence("An add with d = 0 is an add like any other.", Promise05AddTest::zeroIsEntered);
        Check.sentence("An add with d = 0 is an add like any other.", Promise05AddTest::zeroConflicts);
        Check.sentence("No status changes, and no settling is done.", Promise05AddTest::nothingElseChanges);
        Check.finish();
    }

    private static void oneEntry() {
        Run r = new Run(3, 2);
        r.begin(1);
        r.add(1, 1, 5, 5);
        r.opsLeft(MAX_OPS - 1);
        r.access(1, 1, 3);
        r.access(1, 0, 0);
        r.written(1, 1, 5);
    }

    private static void conflictsWithReadsAndWrites() {
        Run r = new Run(5, 1);
        r.beginAll(1, 5);
        r.read(1, 0, 0);
        r.add(2, 0, 1, 1);
        r.before(1, 2, 1);
        r.before(2, 1, 0);
        r.read(3, 0, 1);
        r.before(2, 3, 1);
        r.add(4, 0, 1, 2);
        r.before(3, 4, 1);
        r.before(2, 4, 1);
        r.write(5, 0, 0, DONE);
        r.before(4, 5, 1);
    }

    private static void goodValues() {
        Run r = Scenes.everyStatus();
        r.add(6, 2, 0, 0);
        r.add(6, 2, 1, 1);
        r.add(6, 2, 998, 999);
        r.add(6, 2, 999, 998);
    }

    private static void logFull() {
        Run r = new Run(2, 2);
        r.beginAll(1, 2);
        r.readUntilLeft(1, 0, 0, 1);
        r.add(2, 0, 6, 6);
        r.opsLeft(0);
        // The last entry has all that others have.
        r.value(0, 6);
        r.access(2, 0, 3);
        r.before(1, 2, 1);
        r.add(2, 0, 7, NO_OPS);
        r.add(1, 1, 0, NO_OPS);
    }

    private static void noCycle() {
        Run r = new Run(3, 2);
        r.beginAll(1, 2);
        r.add(1, 0, 5, 5);
        r.add(2, 0, 5, 10);
        r.add(2, 0, 5, 15);
        r.add(1, 1, 5, 5);
        r.add(2, 1, 5, 10);
        r.statuses(ACTIVE, ACTIVE);
        r.before(1, 2, 1);
        r.before(2, 1, 0);
    }

    private static void cycleTakesReadersAndSettles() {
        Run r = new Run(5, 3);
        r.beginAll(1, 4);
        r.write(1, 0, 1, DONE);
        r.read(2, 0, 1);
        r.write(2, 2, 6, DONE);
        r.read(1, 1, 0);
        r.write(3, 1, 9, DONE);
        r.commit(3, 1);
        r.write(4, 2, 5, DONE);
        r.statuses(ACTIVE, ACTIVE, COMMITTED, ACTIVE);
        r.add(1, 2, 1, CYCLE);
        r.statuses(ABORTED, ABORTED, SETTLED, ACTIVE);
        r.value(2, 5);
        r.writer(2, 4);
        r.value(0, 0);
        r.settledOrder(3);
    }

    private static void readsFromTheWriterBefore() {
        Run r = new Run(4, 1);
        r.beginAll(1, 4);
        r.write(1, 0, 10, DONE);
        r.add(2, 0, 5, 15);
        r.waitsFor(2, 1, 1);
        r.add(3, 0, 1, 16);
        r.waitsFor(3, 2, 1);
        r.waitsFor(3, 1, 0);
        r.commit(3, 0);
        r.add(4, 0, 1, 17);
        r.waitsFor(4, 3, 1);
        r.abort(2, 3);
        r.statuses(ACTIVE, ABORTED, ABORTED, ABORTED);
        r.value(0, 10);
    }

    private static void readsFromNobodyNew() {
        Run r = new Run(4, 2);
        r.beginAll(1, 3);
        r.add(1, 0, 5, 5);
        r.add(1, 0, 5, 10);
        r.waitsFor(1, 1, 0);
        r.commit(1, 1);
        r.add(2, 0, 5, 15);
        r.add(2, 1, 5, 5);
        r.commit(2, 1);
        r.settledOrder(1, 2);
    }

    private static void sumsBelowTheWrap() {
        int[][] cases = {{0, 0}, {0, 1}, {1, 0}, {0, 998}, {0, 999}, {1, 998}, {998, 1}, {999, 0}, {499, 500}};
        for (int[] c : cases) {
            sum(c[0], c[1], c[0] + c[1]);
        }
    }

    private static void sumsThatWrap() {
        int[][] cases = {{999, 1}, {1, 999}, {500, 500}, {998, 2}, {999, 2}, {2, 999}, {998, 999}, {999, 999}};
        for (int[] c : cases) {
            sum(c[0], c[1], c[0] + c[1] - 1000);
        }
    }

    private static void sum(int c, int d, int stored) {
        Run r = new Run(2, 1);
        r.beginAll(1, 2);
        r.write(1, 0, c, DONE);
        r.add(2, 0, d, stored);
        r.value(0, stored);
        r.written(2, 0, stored);
    }

    private static void ownValueBefore() {
        Run r = new Run(2, 1);
        r.begin(1);
        r.write(1, 0, 7, DONE);
        r.add(1, 0, 3, 10);
        r.add(1, 0, 3, 13);
        r.read(1, 0, 13);
    }

    private static void othersValueBefore() {
        Run r = new Run(5, 1);
        r.beginAll(1, 4);
        r.write(1, 0, 100, DONE);
        r.commit(1, 1);
        r.add(2, 0, 1, 101);
        r.add(3, 0, 10, 111);
        r.abort(3, 1);
        r.add(4, 0, 3, 104);
    }

    private static void nothingStandsBefore() {
        Run r = new Run(4, 2);
        r.beginAll(1, 3);
        r.add(1, 0, 5, 5);
        r.abort(1, 1);
        r.add(2, 0, 7, 7);
        r.add(2, 1, 999, 999);
        r.waitsFor(2, 3, 0);
        r.commit(2, 1);
    }

    private static void answerIsTheStoredValue() {
        Run r = new Run(2, 1);
        r.begin(1);
        r.add(1, 0, 600, 600);
        r.written(1, 0, 600);
        r.add(1, 0, 600, 200);
        r.written(1, 0, 200);
        r.commit(1, 1);
        r.settledValue(0, 200);
    }

    private static void currentValueAndLastWriter() {
        Run r = new Run(3, 2);
        r.beginAll(1, 2);
        r.add(1, 0, 998, 998);
        r.value(0, 998);
        r.writer(0, 1);
        r.add(2, 0, 999, 997);
        r.value(0, 997);
        r.writer(0, 2);
        r.written(1, 0, 998);
        r.value(1, 0);
        r.writer(1, 0);
    }

    private static void zeroIsEntered() {
        Run r = new Run(4, 2);
        r.beginAll(1, 3);
        r.write(1, 0, 999, DONE);
        r.add(2, 0, 0, 999);
        r.opsLeft(MAX_OPS - 2);
        r.writer(0, 2);
        r.written(2, 0, 999);
        r.access(2, 0, 3);
        r.waitsFor(2, 1, 1);
        r.add(3, 1, 0, 0);
        r.opsLeft(MAX_OPS - 3);
        r.writer(1, 3);
        r.written(3, 1, 0);
        r.access(3, 1, 3);
    }

    private static void zeroConflicts() {
        Run r = new Run(3, 1);
        r.beginAll(1, 3);
        r.read(1, 0, 0);
        r.add(2, 0, 0, 0);
        r.before(1, 2, 1);
        r.read(3, 0, 0);
        r.waitsFor(3, 2, 1);
        r.add(1, 0, 0, CYCLE);
        r.statuses(ABORTED, ACTIVE, ACTIVE);
        r.add(2, 0, 0, CYCLE);
        r.statuses(ABORTED, ABORTED, ABORTED);
    }

    private static void nothingElseChanges() {
        Run r = Scenes.everyStatus();
        Picture earlier = r.picture();
        r.add(6, 0, 9, 42);
        r.changedSince(earlier, "opsLeft()", "access(6, 0)", "written(6, 0)", "value(0)", "writer(0)",
                "before(1, 6)", "before(2, 6)", "before(3, 6)");
        r.statuses(ACTIVE, WAITING, COMMITTED, SETTLED, ABORTED, ACTIVE);
        r.settledOrder(4);
    }
}
