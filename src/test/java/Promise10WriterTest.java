final class Promise10WriterTest implements Answers {
    public static void main(String[] args) {
        Check.part("Promise 10: writer");
        Check.sentence("answers NO_ITEM if x < 0 or x >= items", Promise10WriterTest::noItem);
        Check.sentence("otherwise the last writer of x if it exists and is open", Promise10WriterTest::lastWriter);
        Check.sentence("if it exists and is open", Promise10WriterTest::everyOpenStatus);
        Check.sentence("else 0", Promise10WriterTest::zeroForReads);
        Check.sentence("the answer is 0 when no entry that writes x (write or add) stands",
                Promise10WriterTest::zeroIfNothingStands);
        Check.sentence("also when the last writer is SETTLED", Promise10WriterTest::zeroIfSettled);
        Check.sentence("also when the last writer is SETTLED", Promise10WriterTest::zeroOnceSettledByAnAbort);
        Check.sentence("It changes nothing.", Promise10WriterTest::changesNothing);
        Check.finish();
    }

    private static void noItem() {
        Run r = Scenes.everyStatus();
        for (int x : Scenes.BAD_ITEMS) {
            r.writer(x, NO_ITEM);
        }
        r.writer(0, 3);
        r.writer(2, 0);
        r = new Run(2, 8);
        r.writer(7, 0);
        r.writer(8, NO_ITEM);
    }

    private static void lastWriter() {
        Run r = new Run(4, 2);
        r.beginAll(1, 4);
        r.write(2, 0, 1, DONE);
        r.writer(0, 2);
        r.writer(1, 0);
        r.add(1, 0, 1, 2);
        r.writer(0, 1);
        r.write(4, 0, 9, DONE);
        r.writer(0, 4);
        r.abort(4, 1);
        r.writer(0, 1);
        r = Scenes.allBegun();
        r.write(MAX_BEGUN, 0, 1, DONE);
        r.writer(0, MAX_BEGUN);
    }

    private static void everyOpenStatus() {
        Run r = new Run(5, 1);
        r.beginAll(1, 3);
        r.read(1, 0, 0);
        r.write(2, 0, 1, DONE);
        r.add(3, 0, 1, 2);
        r.status(3, ACTIVE);
        r.writer(0, 3);
        r.commit(3, 0);
        r.status(3, WAITING);
        r.writer(0, 3);
        r.commit(2, 2);
        r.status(3, COMMITTED);
        r.writer(0, 3);
        r.commit(1, 1);
        r.status(3, SETTLED);
        r.writer(0, 0);
    }

    private static void zeroForReads() {
        Run r = new Run(3, 1);
        r.beginAll(1, 2);
        r.writer(0, 0);
        r.read(1, 0, 0);
        r.writer(0, 0);
        r.write(2, 0, 1, DONE);
        r.read(2, 0, 1);
        r.writer(0, 2);
    }

    private static void zeroIfNothingStands() {
        Run r = new Run(4, 2);
        r.beginAll(1, 3);
        r.write(1, 0, 5, DONE);
        r.add(2, 1, 5, 5);
        r.writer(0, 1);
        r.writer(1, 2);
        r.abort(1, 1);
        r.writer(0, 0);
        r.abort(2, 1);
        r.writer(1, 0);
    }

    private static void zeroIfSettled() {
        Run r = new Run(5, 1);
        r.beginAll(1, 3);
        r.write(1, 0, 5, DONE);
        r.commit(1, 1);
        r.status(1, SETTLED);
        r.writer(0, 0);
        r.value(0, 5);
        r.write(2, 0, 7, DONE);
        r.writer(0, 2);
        r.abort(2, 1);
        r.writer(0, 0);
        r.value(0, 5);
        r.add(3, 0, 1, 6);
        r.commit(3, 1);
        r.writer(0, 0);
    }

    private static void zeroOnceSettledByAnAbort() {
        Run r = new Run(3, 1);
        r.beginAll(1, 2);
        r.write(1, 0, 1, DONE);
        r.write(2, 0, 2, DONE);
        r.commit(2, 1);
        r.status(2, COMMITTED);
        r.writer(0, 2);
        r.abort(1, 1);
        r.status(2, SETTLED);
        r.writer(0, 0);
    }

    private static void changesNothing() {
        Run r = Scenes.everyStatus();
        Picture earlier = r.picture();
        r.writer(0, 3);
        r.writer(1, 0);
        r.writer(2, 0);
        for (int x : Scenes.BAD_ITEMS) {
            r.writer(x, NO_ITEM);
        }
        r.changedSince(earlier);
    }
}
