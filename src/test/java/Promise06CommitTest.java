final class Promise06CommitTest implements Answers {
    public static void main(String[] args) {
        Check.part("Promise 6: commit");
        Check.sentence("commit(t), refusals in order:", Promise06CommitTest::refusalsInOrder);
        Check.sentence("t < 1 or t > begun: NO_TXN.", Promise06CommitTest::noTransaction);
        Check.sentence("t is not ACTIVE (a WAITING one included): NOT_ACTIVE.", Promise06CommitTest::notActive);
        Check.sentence("(a WAITING one included)", Promise06CommitTest::waitingIsNotActive);
        Check.sentence("If t has read from some transaction that is now unfinished: t becomes WAITING",
                Promise06CommitTest::waitsForActive);
        Check.sentence("If t has read from some transaction that is now unfinished: t becomes WAITING",
                Promise06CommitTest::waitsForWaiting);
        Check.sentence("If t has read from some transaction that is now unfinished: t becomes WAITING",
                Promise06CommitTest::waitsForOneOfTwo);
        Check.sentence("that is now unfinished", Promise06CommitTest::doesNotWaitForCommitted);
        Check.sentence("the answer is 0, and nothing else changes (no settling)",
                Promise06CommitTest::waitingChangesNothingElse);
        Check.sentence("Otherwise t becomes COMMITTED", Promise06CommitTest::becomesCommitted);
        Check.sentence("as long as there is a WAITING transaction that has read from no transaction now unfinished",
                Promise06CommitTest::waitersInTurn);
        Check.sentence("as long as there is a WAITING transaction that has read from no transaction now unfinished",
                Promise06CommitTest::waitersAgainstTheNumbers);
        Check.sentence("as long as there is a WAITING transaction that has read from no transaction now unfinished",
                Promise06CommitTest::waitersForTwo);
        Check.sentence("it becomes COMMITTED too", Promise06CommitTest::onlyWaitersComeAlong);
        Check.sentence("then settling is done", Promise06CommitTest::thenSettling);
        Check.sentence("then settling is done", Promise06CommitTest::settlingAfterTheWaiters);
        Check.sentence("The answer is the number of transactions that became COMMITTED in this call",
                Promise06CommitTest::countsThoseOfThisCall);
        Check.sentence("(t included, so 1 or more)", Promise06CommitTest::countsItself);
        Check.sentence("whether or not they were then SETTLED", Promise06CommitTest::countsSettledOrNot);
        Check.sentence("A commit makes no log entry", Promise06CommitTest::noLogEntry);
        Check.sentence("changes no current value and no last writer", Promise06CommitTest::noValueChanges);
        Check.sentence("A transaction without log entries can be committed.", Promise06CommitTest::withoutEntries);
        Check.finish();
    }

    private static void refusalsInOrder() {
        // No number is both not begun and not active, so the order shows at the border between the two.
        Run r = Scenes.everyStatus();
        r.abort(6, 1);
        r.commit(6, NOT_ACTIVE);
        r.commit(7, NO_TXN);
        r.commit(1, 2);
        r.commit(1, NOT_ACTIVE);
        r.commit(0, NO_TXN);
    }

    private static void noTransaction() {
        new Run(2, 1).commit(1, NO_TXN);
        Run r = Scenes.everyStatus();
        for (int t : Scenes.NOT_BEGUN) {
            r.commit(t, NO_TXN);
        }
        r = Scenes.allBegun();
        r.commit(MAX_BEGUN + 1, NO_TXN);
        r.commit(MAX_BEGUN, 1);
    }

    private static void notActive() {
        Run r = Scenes.everyStatus();
        for (int t = 3; t <= 5; t++) {
            r.commit(t, NOT_ACTIVE);
        }
    }

    private static void waitingIsNotActive() {
        Run r = Scenes.everyStatus();
        r.commit(2, NOT_ACTIVE);
        r.status(2, WAITING);
        r.commit(1, 2);
        r.status(2, SETTLED);
    }

    private static void waitsForActive() {
        Run r = new Run(3, 1);
        r.beginAll(1, 3);
        r.write(1, 0, 1, DONE);
        r.read(2, 0, 1);
        r.add(3, 0, 1, 2);
        r.commit(2, 0);
        r.commit(3, 0);
        r.statuses(ACTIVE, WAITING, WAITING);
    }

    private static void waitsForWaiting() {
        Run r = new Run(3, 2);
        r.beginAll(1, 3);
        r.write(1, 0, 1, DONE);
        r.read(2, 0, 1);
        r.write(2, 1, 2, DONE);
        r.read(3, 1, 2);
        r.commit(2, 0);
        r.commit(3, 0);
        r.statuses(ACTIVE, WAITING, WAITING);
    }

    private static void waitsForOneOfTwo() {
        Run r = new Run(4, 2);
        r.beginAll(1, 3);
        r.write(1, 0, 1, DONE);
        r.write(2, 1, 2, DONE);
        r.read(3, 0, 1);
        r.read(3, 1, 2);
        r.commit(1, 1);
        r.commit(3, 0);
        r.statuses(SETTLED, ACTIVE, WAITING);
    }

    private static void doesNotWaitForCommitted() {
        Run r = new Run(4, 1);
        r.beginAll(1, 3);
        r.read(1, 0, 0);
        r.write(2, 0, 2, DONE);
        r.read(3, 0, 2);
        r.waitsFor(3, 2, 1);
        // 3 did read from the unfinished 2, which is finished now.
        r.commit(2, 1);
        r.commit(3, 1);
        r.statuses(ACTIVE, COMMITTED, COMMITTED);
    }

    private static void waitingChangesNothingElse() {
        Run r = Scenes.everyStatus();
        r.begin(7);
        r.write(6, 2, 9, DONE);
        r.read(7, 2, 9);
        Picture earlier = r.picture();
        r.commit(7, 0);
        r.changedSince(earlier, "status(7)");
        r.statuses(ACTIVE, WAITING, COMMITTED, SETTLED, ABORTED, ACTIVE, WAITING);
        r.settledOrder(4);
    }

    private static void becomesCommitted() {
        Run r = new Run(3, 1);
        r.beginAll(1, 2);
        r.read(1, 0, 0);
        r.write(2, 0, 1, DONE);
        r.commit(2, 1);
        r.statuses(ACTIVE, COMMITTED);
        r.read(2, 0, NOT_ACTIVE);
    }

    private static void waitersInTurn() {
        Run r = new Run(16, 1);
        r.beginAll(1, 16);
        for (int t = 1; t <= 16; t++) {
            // Each reads from the one before it.
            r.add(t, 0, 1, t);
        }
        for (int t = 16; t >= 2; t--) {
            r.commit(t, 0);
        }
        r.commit(1, 16);
        r.settledOrder(1, 2, 3, 4, 5, 6, 7, 8, 9, 10, 11, 12, 13, 14, 15, 16);
    }

    private static void waitersAgainstTheNumbers() {
        Run r = new Run(16, 1);
        r.beginAll(1, 16);
        for (int t = 16; t >= 1; t--) {
            r.add(t, 0, 1, 17 - t);
        }
        for (int t = 1; t <= 15; t++) {
            r.commit(t, 0);
        }
        r.commit(16, 16);
        r.settledOrder(16, 15, 14, 13, 12, 11, 10, 9, 8, 7, 6, 5, 4, 3, 2, 1);
    }

    private static void waitersForTwo() {
        Run r = new Run(3, 2);
        r.beginAll(1, 3);
        r.write(1, 0, 1, DONE);
        r.write(2, 1, 2, DONE);
        r.read(3, 0, 1);
        r.read(3, 1, 2);
        r.commit(3, 0);
        r.commit(2, 1);
        r.statuses(ACTIVE, SETTLED, WAITING);
        r.commit(1, 2);
        r.settledOrder(2, 1, 3);
    }

    private static void onlyWaitersComeAlong() {
        Run r = new Run(6, 2);
        r.beginAll(1, 6);
        r.write(1, 0, 1, DONE);
        r.read(2, 0, 1);
        r.read(3, 0, 1);
        r.commit(3, 0);
        r.write(4, 1, 4, DONE);
        r.read(5, 1, 4);
        r.commit(5, 0);
        // 2 has not asked to commit, 5 waits for another one, and 6 has nothing to do with it.
        r.commit(1, 2);
        r.statuses(SETTLED, ACTIVE, SETTLED, ACTIVE, WAITING, ACTIVE);
    }

    private static void thenSettling() {
        Run r = new Run(6, 3);
        r.beginAll(1, 4);
        r.read(2, 0, 0);
        r.write(4, 0, 4, DONE);
        r.write(1, 0, 1, DONE);
        r.commit(1, 1);
        r.commit(4, 1);
        r.statuses(COMMITTED, ACTIVE, ACTIVE, COMMITTED);
        r.settledOrder();
        r.commit(2, 1);
        r.statuses(SETTLED, SETTLED, ACTIVE, SETTLED);
        r.settledOrder(2, 4, 1);
    }

    private static void settlingAfterTheWaiters() {
        Run r = new Run(6, 2);
        r.beginAll(1, 5);
        r.write(3, 0, 3, DONE);
        r.read(1, 0, 3);
        r.commit(1, 0);
        r.read(3, 1, 0);
        r.write(5, 1, 5, DONE);
        r.commit(5, 1);
        r.statuses(WAITING, ACTIVE, ACTIVE, ACTIVE, COMMITTED);
        // Were 3 settled before 1 is committed, 5 would come before 1.
        r.commit(3, 2);
        r.settledOrder(3, 1, 5);
    }

    private static void countsThoseOfThisCall() {
        Run r = new Run(6, 2);
        r.beginAll(1, 5);
        r.read(5, 1, 0);
        r.write(1, 1, 1, DONE);
        r.write(2, 0, 2, DONE);
        r.read(3, 0, 2);
        r.read(4, 0, 2);
        r.commit(1, 1);
        r.commit(3, 0);
        r.commit(4, 0);
        r.status(1, COMMITTED);
        // 1 was committed before and is not counted again.
        r.commit(2, 3);
        // Two become settled here, but one becomes committed.
        r.commit(5, 1);
        r.statuses(SETTLED, SETTLED, SETTLED, SETTLED, SETTLED);
    }

    private static void countsItself() {
        Run r = new Run(3, 1);
        r.beginAll(1, 2);
        r.write(1, 0, 1, DONE);
        r.commit(1, 1);
        r.commit(2, 1);
    }

    private static void countsSettledOrNot() {
        Run r = new Run(5, 2);
        r.beginAll(1, 4);
        r.read(1, 0, 0);
        r.write(2, 0, 2, DONE);
        r.read(3, 0, 2);
        r.commit(3, 0);
        r.commit(2, 2);
        r.statuses(ACTIVE, COMMITTED, COMMITTED);
        r.begin(5);
        r.write(4, 1, 4, DONE);
        r.read(5, 1, 4);
        r.commit(5, 0);
        r.commit(4, 2);
        r.status(4, SETTLED);
        r.status(5, SETTLED);
    }

    private static void noLogEntry() {
        Run r = new Run(3, 1);
        r.beginAll(1, 3);
        r.write(1, 0, 1, DONE);
        r.read(2, 0, 1);
        r.commit(2, 0);
        r.opsLeft(MAX_OPS - 2);
        r.commit(1, 2);
        r.opsLeft(MAX_OPS - 2);
        r.commit(3, 1);
        r.opsLeft(MAX_OPS - 2);
    }

    private static void noValueChanges() {
        Run r = new Run(4, 3);
        r.beginAll(1, 3);
        r.read(2, 0, 0);
        r.write(1, 0, 3, DONE);
        r.write(2, 1, 4, DONE);
        r.write(3, 0, 5, DONE);
        r.commit(1, 1);
        r.status(1, COMMITTED);
        r.value(0, 5);
        r.writer(0, 3);
        r.value(1, 4);
        r.writer(1, 2);
        r.commit(2, 1);
        r.statuses(SETTLED, SETTLED, ACTIVE);
        r.value(0, 5);
        r.writer(0, 3);
        r.value(1, 4);
        // The last writer of item 1 is still 2, but settled, so that nobody reads from it.
        r.read(3, 1, 4);
        r.commit(3, 1);
        r.value(0, 5);
        r.value(2, 0);
    }

    private static void withoutEntries() {
        Run r = new Run(2, 1);
        r.begin(1);
        r.commit(1, 1);
        r.status(1, SETTLED);
        r.settledOrder(1);
        r.opsLeft(MAX_OPS);
        // The log being full does not keep it from committing.
        r.beginAll(2, 3);
        r.readUntilLeft(2, 0, 0, 0);
        r.commit(3, 1);
        r.settledOrder(1, 3);
    }
}
