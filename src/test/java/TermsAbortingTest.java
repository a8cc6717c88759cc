final class TermsAbortingTest implements Answers {
    public static void main(String[] args) {
        Check.part("Terms, Aborting");
        Check.sentence("the least set that contains t", TermsAbortingTest::nobodyElse);
        Check.sentence("the least set that contains t", TermsAbortingTest::notThoseReadFrom);
        Check.sentence("with each member m also every", TermsAbortingTest::readersOfReaders);
        Check.sentence("with each member m also every", TermsAbortingTest::readersOfReadersAgainstTheNumbers);
        Check.sentence("with each member m also every", TermsAbortingTest::readersByTwoWays);
        Check.sentence("with each member m also every", TermsAbortingTest::firstAndLastNumber);
        Check.sentence("every unfinished transaction that has read from m", TermsAbortingTest::activeAndWaitingReaders);
        Check.sentence("every unfinished transaction that has read from m",
                TermsAbortingTest::abortedReadersDoNotCount);
        Check.sentence("All members of S become ABORTED together.", TermsAbortingTest::together);
        Check.sentence("Then settling is done.", TermsAbortingTest::thenSettling);
        Check.finish();
    }

    private static void nobodyElse() {
        Run r = new Run(5, 2);
        r.beginAll(1, 5);
        r.read(2, 1, 0);
        r.write(1, 0, 1, DONE);
        r.write(1, 1, 1, DONE);
        r.write(3, 0, 3, DONE);
        r.read(4, 0, 3);
        // 2 comes before 1; 3 comes after it but has not read from it, and 4 has read from 3.
        r.abort(1, 1);
        r.statuses(ABORTED, ACTIVE, ACTIVE, ACTIVE, ACTIVE);
    }

    private static void notThoseReadFrom() {
        Run r = new Run(4, 1);
        r.beginAll(1, 3);
        r.write(1, 0, 1, DONE);
        r.add(2, 0, 1, 2);
        r.read(3, 0, 2);
        r.abort(2, 2);
        r.statuses(ACTIVE, ABORTED, ABORTED);
        r.value(0, 1);
        r.writer(0, 1);
    }

    private static void readersOfReaders() {
        Run r = new Run(16, 1);
        r.beginAll(1, 16);
        for (int t = 2; t <= 16; t++) {
            // Each reads from the one before it.
            r.add(t, 0, 1, t - 1);
        }
        r.abort(2, 15);
        r.status(1, ACTIVE);
        for (int t = 2; t <= 16; t++) {
            r.status(t, ABORTED);
        }
    }

    private static void readersOfReadersAgainstTheNumbers() {
        Run r = new Run(16, 1);
        r.beginAll(1, 16);
        for (int t = 15; t >= 1; t--) {
            r.add(t, 0, 1, 16 - t);
        }
        r.abort(15, 15);
        r.status(16, ACTIVE);
        for (int t = 1; t <= 15; t++) {
            r.status(t, ABORTED);
        }
    }

    private static void readersByTwoWays() {
        Run r = new Run(5, 3);
        r.beginAll(1, 5);
        r.write(1, 0, 1, DONE);
        r.read(2, 0, 1);
        r.write(2, 1, 2, DONE);
        r.read(3, 0, 1);
        r.write(3, 2, 3, DONE);
        r.read(4, 1, 2);
        r.read(4, 2, 3);
        r.abort(1, 4);
        r.statuses(ABORTED, ABORTED, ABORTED, ABORTED, ACTIVE);
    }

    private static void firstAndLastNumber() {
        Run r = new Run(3, 1);
        r.begin(1);
        for (int t = 2; t < MAX_BEGUN; t++) {
            r.begin(t);
            r.abort(t, 1);
        }
        r.begin(MAX_BEGUN);
        r.write(MAX_BEGUN, 0, 1, DONE);
        r.read(1, 0, 1);
        r.abort(MAX_BEGUN, 2);
        r.status(1, ABORTED);
        r.status(MAX_BEGUN, ABORTED);
    }

    private static void activeAndWaitingReaders() {
        Run r = new Run(5, 2);
        r.beginAll(1, 4);
        r.write(1, 0, 1, DONE);
        r.read(2, 0, 1);
        r.write(2, 1, 2, DONE);
        r.commit(2, 0);
        r.read(3, 0, 1);
        // 4 is reached through the waiting 2 alone.
        r.read(4, 1, 2);
        r.statuses(ACTIVE, WAITING, ACTIVE, ACTIVE);
        r.abort(1, 4);
        r.statuses(ABORTED, ABORTED, ABORTED, ABORTED);
    }

    private static void abortedReadersDoNotCount() {
        Run r = new Run(4, 1);
        r.beginAll(1, 3);
        r.write(1, 0, 1, DONE);
        r.read(2, 0, 1);
        r.read(3, 0, 1);
        r.abort(2, 1);
        r.status(1, ACTIVE);
        r.abort(1, 2);
        r.statuses(ABORTED, ABORTED, ABORTED);
    }

    private static void together() {
        Run r = new Run(5, 3);
        r.beginAll(1, 5);
        r.write(1, 0, 1, DONE);
        r.read(2, 0, 1);
        r.read(1, 1, 0);
        r.write(5, 1, 5, DONE);
        r.read(2, 2, 0);
        r.write(3, 2, 3, DONE);
        r.commit(5, 1);
        r.commit(3, 1);
        r.statuses(ACTIVE, ACTIVE, COMMITTED, ACTIVE, COMMITTED);
        // 5 stands behind 1 alone and 3 behind 2 alone: only if both go at once is 3 the first.
        r.abort(1, 2);
        r.settledOrder(3, 5);
    }

    private static void thenSettling() {
        Run r = new Run(4, 1);
        r.beginAll(1, 3);
        r.read(1, 0, 0);
        r.write(2, 0, 2, DONE);
        r.read(3, 0, 2);
        r.commit(3, 0);
        r.commit(2, 2);
        r.statuses(ACTIVE, COMMITTED, COMMITTED);
        r.settledOrder();
        r.abort(1, 1);
        r.statuses(ABORTED, SETTLED, SETTLED);
        r.settledOrder(2, 3);
    }
}
