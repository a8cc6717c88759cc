final class TermsTransactionsTest implements Answers {
    public static void main(String[] args) {
        Check.part("Terms, Transactions");
        Check.sentence("numbered 1, 2, 3, .. in the order of begin()", TermsTransactionsTest::numberedInOrder);
        Check.sentence("numbers are never used again", TermsTransactionsTest::numbersAreNeverUsedAgain);
        Check.sentence("begun is the greatest number given so far", TermsTransactionsTest::begunIsTheGreatestNumber);
        Check.sentence("(0 at first)", TermsTransactionsTest::begunIsZeroAtFirst);
        Check.sentence("Each begun transaction has exactly one status", TermsTransactionsTest::exactlyOneStatus);
        Check.sentence("unfinished if it is ACTIVE or WAITING;", TermsTransactionsTest::unfinished);
        Check.sentence("open if it is ACTIVE, WAITING or COMMITTED.", TermsTransactionsTest::open);
        Check.sentence("(COMMITTED does not include SETTLED.)", TermsTransactionsTest::settledIsNotOpen);
        Check.sentence("SETTLED and ABORTED are never left again.", TermsTransactionsTest::settledIsNeverLeft);
        Check.sentence("SETTLED and ABORTED are never left again.", TermsTransactionsTest::abortedIsNeverLeft);
        Check.finish();
    }

    private static void numberedInOrder() {
        Run r = new Run(16, 1);
        r.beginAll(1, 16);
    }

    private static void numbersAreNeverUsedAgain() {
        Run r = new Run(2, 1);
        r.beginAll(1, 2);
        r.abort(2, 1);
        r.begin(3);
        r.status(2, ABORTED);
        r.commit(1, 1);
        r.begin(4);
        r.status(1, SETTLED);
        r.abort(4, 1);
        r.abort(3, 1);
        r.begin(5);
    }

    private static void begunIsTheGreatestNumber() {
        Run r = new Run(2, 1);
        r.begin(1);
        r.read(1, 0, 0);
        r.read(2, 0, NO_TXN);
        r.begin(2);
        r.read(2, 0, 0);
        r.begin(FULL);
        r.read(3, 0, NO_TXN);
        // Its end does not take the greatest number away.
        r.abort(2, 1);
        r.read(2, 0, NOT_ACTIVE);
        r.status(2, ABORTED);
    }

    private static void begunIsZeroAtFirst() {
        Run r = new Run(2, 1);
        for (int t = -1; t <= 2; t++) {
            r.status(t, NONE);
            r.commit(t, NO_TXN);
        }
    }

    private static void exactlyOneStatus() {
        Run r = Scenes.everyStatus();
        r.statuses(ACTIVE, WAITING, COMMITTED, SETTLED, ABORTED, ACTIVE);
    }

    private static void unfinished() {
        Run r = Scenes.everyStatus();
        r.begin(7);
        r.abort(3, NOT_ACTIVE);
        r.abort(4, NOT_ACTIVE);
        r.abort(5, NOT_ACTIVE);
        r.abort(2, 1);
        r.abort(1, 1);
        r.statuses(ABORTED, ABORTED, SETTLED, SETTLED, ABORTED, ACTIVE, ACTIVE);
    }

    private static void open() {
        Run r = Scenes.everyStatus();
        r.access(1, 0, 2);
        r.access(2, 0, 3);
        r.access(3, 0, 2);
        r.access(4, 1, NOT_OPEN);
        r.access(5, 2, NOT_OPEN);
    }

    private static void settledIsNotOpen() {
        Run r = new Run(2, 1);
        r.beginAll(1, 2);
        r.read(1, 0, 0);
        r.write(2, 0, 7, DONE);
        r.commit(2, 1);
        r.status(2, COMMITTED);
        r.writer(0, 2);
        r.written(2, 0, 7);
        r.begin(FULL);
        r.commit(1, 1);
        r.status(2, SETTLED);
        r.writer(0, 0);
        r.written(2, 0, NOT_OPEN);
        r.beginAll(3, 4);
    }

    private static void settledIsNeverLeft() {
        Run r = new Run(4, 1);
        r.beginAll(1, 3);
        r.write(1, 0, 1, DONE);
        r.read(2, 0, 1);
        r.commit(2, 0);
        r.commit(1, 2);
        r.statuses(SETTLED, SETTLED);
        for (int t = 1; t <= 2; t++) {
            r.read(t, 0, NOT_ACTIVE);
            r.write(t, 0, 2, NOT_ACTIVE);
            r.add(t, 0, 2, NOT_ACTIVE);
            r.commit(t, NOT_ACTIVE);
            r.abort(t, NOT_ACTIVE);
        }
        r.begin(4);
        r.add(3, 0, 1, 2);
        r.read(4, 0, 2);
        r.write(3, 0, 2, CYCLE);
        r.statuses(SETTLED, SETTLED, ABORTED, ABORTED);
        r.settledOrder(1, 2);
    }

    private static void abortedIsNeverLeft() {
        Run r = new Run(5, 1);
        r.beginAll(1, 4);
        r.write(1, 0, 1, DONE);
        r.read(2, 0, 1);
        r.commit(2, 0);
        r.read(3, 0, 1);
        r.read(4, 0, 1);
        r.abort(2, 1);
        r.abort(3, 1);
        for (int t = 2; t <= 3; t++) {
            r.read(t, 0, NOT_ACTIVE);
            r.write(t, 0, 2, NOT_ACTIVE);
            r.add(t, 0, 2, NOT_ACTIVE);
            r.commit(t, NOT_ACTIVE);
            r.abort(t, NOT_ACTIVE);
        }
        // The one they read from commits, and takes no aborted reader along.
        r.commit(1, 1);
        r.commit(4, 1);
        r.statuses(SETTLED, ABORTED, ABORTED, SETTLED);
        r.settledOrder(1, 4);
    }
}
