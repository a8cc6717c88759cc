final class Promise04WriteTest implements Answers {
    private static final OperationEdges EDGES = new OperationEdges(Run::write);

    public static void main(String[] args) {
        Check.part("Promise 4: write");
        Check.sentence("write(t, x, v): transaction t writes value v to item x.", Promise04WriteTest::writesTheItem);
        Check.sentence("Refusals in order:", EDGES::refusalsInOrder);
        Check.sentence("Refusals in order:", EDGES::refusalsInOrderWithBadValues);
        Check.sentence("t < 1 or t > begun: NO_TXN.", EDGES::noTransaction);
        Check.sentence("t is not ACTIVE: NOT_ACTIVE.", EDGES::notActive);
        Check.sentence("x < 0 or x >= items: NO_ITEM.", EDGES::noItem);
        Check.sentence("v < 0 or v > 999: BAD_VALUE.", EDGES::badValue);
        Check.sentence("v < 0 or v > 999: BAD_VALUE.", Promise04WriteTest::goodValues);
        Check.sentence("The log has MAX_OPS entries: NO_OPS.", Promise04WriteTest::logFull);
        Check.sentence("The log has MAX_OPS entries: NO_OPS.", EDGES::logFullBeforeCycle);
        Check.sentence("if the graph would have a cycle once this write were entered", EDGES::cycleByLaterRead);
        Check.sentence("if the graph would have a cycle once this write were entered", EDGES::cycleByLaterWrite);
        Check.sentence("if the graph would have a cycle once this write were entered", EDGES::cycleByLaterAdd);
        Check.sentence("if the graph would have a cycle once this write were entered", EDGES::cycleOfFour);
        Check.sentence("if the graph would have a cycle once this write were entered",
                Promise04WriteTest::onlyThoseThatCloseOne);
        Check.sentence("nothing is entered", EDGES::cycleIsNotEntered);
        Check.sentence("t is aborted (aborting, with its settling)", Promise04WriteTest::cycleTakesReadersAndSettles);
        Check.sentence("and the answer is CYCLE", EDGES::cycleIsTheAnswer);
        Check.sentence("Otherwise the write is entered with stored value v, and the answer is DONE.",
                Promise04WriteTest::entered);
        Check.sentence("The current value of x is then v and its last writer is t.",
                Promise04WriteTest::currentValueAndLastWriter);
        Check.sentence("No reading-from is added", Promise04WriteTest::noReadingFrom);
        Check.sentence("no status changes, and no settling is done", Promise04WriteTest::nothingElseChanges);
        Check.finish();
    }

    private static void writesTheItem() {
        Run r = new Run(2, 8);
        r.begin(1);
        for (int x = 0; x < 8; x++) {
            r.write(1, x, 100 * x + 7, DONE);
        }
        for (int x = 0; x < 8; x++) {
            r.value(x, 100 * x + 7);
        }
    }

    private static void goodValues() {
        Run r = Scenes.everyStatus();
        for (int v : new int[] {0, 1, 998, 999}) {
            r.write(6, 2, v, DONE);
            r.value(2, v);
        }
    }

    private static void logFull() {
        Run r = new Run(2, 2);
        r.beginAll(1, 2);
        r.readUntilLeft(1, 0, 0, 1);
        r.write(2, 0, 6, DONE);
        r.opsLeft(0);
        // The last entry has all that others have.
        r.value(0, 6);
        r.access(2, 0, 2);
        r.before(1, 2, 1);
        r.write(2, 0, 7, NO_OPS);
        r.write(1, 1, 7, NO_OPS);
    }

    private static void onlyThoseThatCloseOne() {
        Run r = new Run(4, 2);
        r.beginAll(1, 4);
        r.read(1, 0, 0);
        r.read(2, 0, 0);
        r.write(3, 0, 1, DONE);
        r.write(3, 0, 2, DONE);
        r.before(1, 3, 1);
        r.before(2, 3, 1);
        r.before(1, 2, 0);
        r.write(4, 1, 1, DONE);
        r.write(4, 0, 3, DONE);
        r.write(1, 1, 4, CYCLE);
        r.write(2, 1, 4, CYCLE);
        r.statuses(ABORTED, ABORTED, ACTIVE, ACTIVE);
    }

    private static void cycleTakesReadersAndSettles() {
        Run r = new Run(5, 2);
        r.beginAll(1, 4);
        r.write(1, 0, 1, DONE);
        r.add(2, 0, 1, 2);
        r.add(3, 0, 1, 3);
        r.commit(3, 0);
        r.read(1, 1, 0);
        r.write(4, 1, 9, DONE);
        r.commit(4, 1);
        r.statuses(ACTIVE, ACTIVE, WAITING, COMMITTED);
        r.write(1, 1, 8, CYCLE);
        r.statuses(ABORTED, ABORTED, ABORTED, SETTLED);
        r.value(0, 0);
        r.value(1, 9);
        r.writer(1, 0);
        r.settledOrder(4);
    }

    private static void entered() {
        Run r = new Run(3, 2);
        r.beginAll(1, 2);
        r.write(1, 0, 123, DONE);
        r.opsLeft(MAX_OPS - 1);
        r.access(1, 0, 2);
        r.written(1, 0, 123);
        r.access(1, 1, 0);
        r.write(2, 0, 321, DONE);
        r.before(1, 2, 1);
        r.written(1, 0, 123);
        r.written(2, 0, 321);
        // The same value again is another write.
        r.write(2, 0, 321, DONE);
        r.opsLeft(MAX_OPS - 3);
    }

    private static void currentValueAndLastWriter() {
        Run r = new Run(3, 2);
        r.beginAll(1, 2);
        r.write(1, 0, 999, DONE);
        r.value(0, 999);
        r.writer(0, 1);
        r.value(1, 0);
        r.writer(1, 0);
        r.write(1, 0, 0, DONE);
        r.value(0, 0);
        r.writer(0, 1);
        r.write(2, 0, 12, DONE);
        r.value(0, 12);
        r.writer(0, 2);
    }

    private static void noReadingFrom() {
        Run r = new Run(3, 1);
        r.beginAll(1, 2);
        r.write(1, 0, 5, DONE);
        r.write(2, 0, 6, DONE);
        r.waitsFor(2, 1, 0);
        // So it need not wait, nor abort with the other.
        r.commit(2, 1);
        r.status(2, COMMITTED);
        r.abort(1, 1);
        r.status(2, SETTLED);
        r.value(0, 6);
    }

    private static void nothingElseChanges() {
        Run r = Scenes.everyStatus();
        Picture earlier = r.picture();
        r.write(6, 0, 9, DONE);
        r.changedSince(earlier, "opsLeft()", "access(6, 0)", "written(6, 0)", "value(0)", "writer(0)",
                "before(1, 6)", "before(2, 6)", "before(3, 6)");
        r.statuses(ACTIVE, WAITING, COMMITTED, SETTLED, ABORTED, ACTIVE);
        r.settledOrder(4);
    }
}
