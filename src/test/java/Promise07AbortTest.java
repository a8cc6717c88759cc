final class Promise07AbortTest implements Answers {
    public static void main(String[] args) {
        Check.part("Promise 7: abort");
        Check.sentence("abort(t), refusals in order:", Promise07AbortTest::refusalsInOrder);
        Check.sentence("t < 1 or t > begun: NO_TXN.", Promise07AbortTest::noTransaction);
        Check.sentence("t is neither ACTIVE nor WAITING: NOT_ACTIVE.", Promise07AbortTest::neitherActiveNorWaiting);
        Check.sentence("t is neither ACTIVE nor WAITING", Promise07AbortTest::waitingCanBeAborted);
        Check.sentence("Otherwise t is aborted (aborting, with its settling)", Promise07AbortTest::abortedWithSettling);
        Check.sentence("the answer is the number of transactions that became ABORTED",
                Promise07AbortTest::countsReaders);
        Check.sentence("the answer is the number of transactions that became ABORTED",
                Promise07AbortTest::countsNobodyTwice);
        Check.sentence("(t included, so 1 or more)", Promise07AbortTest::countsItself);
        Check.sentence("Transactions that became SETTLED are not counted.", Promise07AbortTest::settledAreNotCounted);
        Check.sentence("The log keeps its entries", Promise07AbortTest::logKeepsEntries);
        Check.sentence("those of the aborted transactions no longer stand", Promise07AbortTest::noLongerStand);
        Check.sentence("each item shows the latest write or add that still stands", Promise07AbortTest::valuesComeBack);
        Check.sentence("each item shows the latest write or add that still stands",
                Promise07AbortTest::abortedValuesDoNotComeBack);
        Check.sentence("each item shows the latest write or add that still stands",
                Promise07AbortTest::settledValueComesBack);
        Check.sentence("even when later writers remain than the aborted one", Promise07AbortTest::laterWritersRemain);
        Check.sentence("An abort makes no transaction COMMITTED.", Promise07AbortTest::makesNobodyCommitted);
        Check.finish();
    }

    private static void refusalsInOrder() {
        // No number is both not begun and finished, so the order shows at the border between the two.
        Run r = Scenes.everyStatus();
        r.abort(6, 1);
        r.abort(6, NOT_ACTIVE);
        r.abort(7, NO_TXN);
        r.abort(1, 2);
        r.abort(1, NOT_ACTIVE);
        r.abort(0, NO_TXN);
    }

    private static void noTransaction() {
        new Run(2, 1).abort(1, NO_TXN);
        Run r = Scenes.everyStatus();
        for (int t : Scenes.NOT_BEGUN) {
            r.abort(t, NO_TXN);
        }
        r = Scenes.allBegun();
        r.abort(MAX_BEGUN + 1, NO_TXN);
        r.abort(MAX_BEGUN, 1);
    }

    private static void neitherActiveNorWaiting() {
        Run r = Scenes.everyStatus();
        for (int t = 3; t <= 5; t++) {
            r.abort(t, NOT_ACTIVE);
        }
    }

    private static void waitingCanBeAborted() {
        Run r = Scenes.everyStatus();
        r.abort(2, 1);
        r.statuses(ACTIVE, ABORTED, COMMITTED, SETTLED, ABORTED, ACTIVE);
        r.commit(1, 1);
        r.settledOrder(4, 1, 3);
    }

    private static void abortedWithSettling() {
        Run r = Scenes.everyStatus();
        r.abort(1, 2);
        r.statuses(ABORTED, ABORTED, SETTLED, SETTLED, ABORTED, ACTIVE);
        r.settledOrder(4, 3);
        r.settledValue(0, 33);
    }

    private static void countsReaders() {
        Run r = new Run(6, 3);
        r.beginAll(1, 5);
        r.write(1, 0, 1, DONE);
        r.read(2, 0, 1);
        r.write(2, 1, 2, DONE);
        r.read(3, 1, 2);
        r.commit(3, 0);
        r.read(4, 0, 1);
        r.write(5, 0, 3, DONE);
        r.abort(1, 4);
        r.statuses(ABORTED, ABORTED, ABORTED, ABORTED, ACTIVE);
    }

    private static void countsNobodyTwice() {
        Run r = new Run(4, 3);
        r.beginAll(1, 4);
        r.write(1, 0, 1, DONE);
        r.write(1, 1, 1, DONE);
        r.read(2, 0, 1);
        r.read(2, 1, 1);
        r.write(2, 2, 2, DONE);
        r.read(3, 0, 1);
        r.read(3, 2, 2);
        r.read(4, 0, 1);
        r.abort(4, 1);
        // 3 is a reader in two ways, and 4 has been aborted before.
        r.abort(1, 3);
    }

    private static void countsItself() {
        Run r = new Run(3, 1);
        r.beginAll(1, 2);
        r.abort(1, 1);
        r.write(2, 0, 2, DONE);
        r.abort(2, 1);
        r.statuses(ABORTED, ABORTED);
    }

    private static void settledAreNotCounted() {
        Run r = new Run(5, 1);
        r.beginAll(1, 4);
        r.read(1, 0, 0);
        r.write(4, 0, 1, DONE);
        r.write(3, 0, 2, DONE);
        r.commit(3, 1);
        r.commit(4, 1);
        r.statuses(ACTIVE, ACTIVE, COMMITTED, COMMITTED);
        r.abort(1, 1);
        r.statuses(ABORTED, ACTIVE, SETTLED, SETTLED);
        r.settledOrder(4, 3);
    }

    private static void logKeepsEntries() {
        Run r = new Run(3, 1);
        r.beginAll(1, 2);
        r.write(1, 0, 1, DONE);
        r.add(2, 0, 1, 2);
        r.read(2, 0, 2);
        r.abort(1, 2);
        r.opsLeft(MAX_OPS - 3);
    }

    private static void noLongerStand() {
        Run r = new Run(4, 1);
        r.beginAll(1, 3);
        r.write(1, 0, 1, DONE);
        r.read(2, 0, 1);
        r.abort(1, 2);
        r.value(0, 0);
        r.writer(0, 0);
        // Neither the write nor the read conflicts with anything any more.
        r.write(3, 0, 3, DONE);
        r.commit(3, 1);
        r.settledOrder(3);
    }

    private static void valuesComeBack() {
        Run r = new Run(4, 2);
        r.beginAll(1, 4);
        r.write(1, 0, 1, DONE);
        r.add(2, 1, 2, 2);
        r.write(2, 0, 2, DONE);
        r.write(3, 0, 3, DONE);
        r.write(3, 0, 4, DONE);
        r.abort(3, 1);
        r.value(0, 2);
        r.writer(0, 2);
        r.abort(2, 1);
        r.value(0, 1);
        r.writer(0, 1);
        r.value(1, 0);
        r.abort(1, 1);
        r.value(0, 0);
        r.writer(0, 0);
    }

    private static void abortedValuesDoNotComeBack() {
        Run r = new Run(4, 1);
        r.beginAll(1, 3);
        r.write(1, 0, 1, DONE);
        r.write(2, 0, 2, DONE);
        r.write(3, 0, 3, DONE);
        r.abort(2, 1);
        // 3 wrote over the value of 2, but that is gone by now.
        r.abort(3, 1);
        r.value(0, 1);
        r.writer(0, 1);
    }

    private static void settledValueComesBack() {
        Run r = new Run(4, 1);
        r.beginAll(1, 3);
        r.add(1, 0, 50, 50);
        r.commit(1, 1);
        r.write(2, 0, 60, DONE);
        r.value(0, 60);
        r.abort(2, 1);
        r.value(0, 50);
        r.writer(0, 0);
        r.read(3, 0, 50);
        r.commit(3, 1);
    }

    private static void laterWritersRemain() {
        Run r = new Run(4, 1);
        r.beginAll(1, 3);
        r.write(1, 0, 1, DONE);
        r.write(2, 0, 2, DONE);
        r.write(3, 0, 3, DONE);
        r.abort(2, 1);
        r.value(0, 3);
        r.writer(0, 3);
        r.abort(1, 1);
        r.value(0, 3);
        r.writer(0, 3);
    }

    private static void makesNobodyCommitted() {
        Run r = new Run(6, 3);
        r.beginAll(1, 5);
        r.write(5, 0, 1, DONE);
        r.read(2, 0, 1);
        r.commit(2, 0);
        r.write(1, 1, 1, DONE);
        r.read(3, 1, 1);
        r.read(3, 0, 1);
        r.commit(3, 0);
        // 3 goes with 1; 2 still waits for 5.
        r.abort(1, 2);
        r.statuses(ABORTED, WAITING, ABORTED, ACTIVE, ACTIVE);
        r.settledOrder();
        r.abort(5, 2);
        r.statuses(ABORTED, ABORTED, ABORTED, ACTIVE, ABORTED);
    }
}
