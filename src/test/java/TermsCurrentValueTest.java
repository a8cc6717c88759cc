final class TermsCurrentValueTest implements Answers {
    public static void main(String[] args) {
        Check.part("Terms, Current value");
        Check.sentence("the value stored by the latest standing entry that writes x",
                TermsCurrentValueTest::latestStandingWrite);
        Check.sentence("Current value of item x", TermsCurrentValueTest::eachItemForItself);
        Check.sentence("0 if there is none.", TermsCurrentValueTest::zeroIfOnlyRead);
        Check.sentence("0 if there is none.", TermsCurrentValueTest::zeroIfAllAborted);
        Check.sentence("Last writer of x: the transaction of that entry", TermsCurrentValueTest::lastWriter);
        Check.sentence("none if there is no such entry", TermsCurrentValueTest::noLastWriter);
        Check.finish();
    }

    private static void latestStandingWrite() {
        Run r = new Run(4, 1);
        r.beginAll(1, 4);
        r.write(1, 0, 1, DONE);
        r.add(1, 0, 1, 2);
        r.write(2, 0, 3, DONE);
        r.write(3, 0, 4, DONE);
        r.read(4, 0, 4);
        r.value(0, 4);
        r.abort(3, 2);
        r.value(0, 3);
        r.abort(2, 1);
        r.value(0, 2);
    }

    private static void eachItemForItself() {
        Run r = new Run(2, 3);
        r.begin(1);
        r.write(1, 1, 9, DONE);
        r.value(0, 0);
        r.value(1, 9);
        r.value(2, 0);
        r.read(1, 0, 0);
        r.add(1, 2, 4, 4);
        r.value(1, 9);
    }

    private static void zeroIfOnlyRead() {
        Run r = new Run(2, 1);
        r.begin(1);
        r.value(0, 0);
        r.read(1, 0, 0);
        r.value(0, 0);
        r.read(1, 0, 0);
    }

    private static void zeroIfAllAborted() {
        Run r = new Run(4, 1);
        r.beginAll(1, 3);
        r.write(1, 0, 5, DONE);
        r.add(2, 0, 5, 10);
        r.abort(1, 2);
        r.value(0, 0);
        r.read(3, 0, 0);
        r.add(3, 0, 7, 7);
    }

    private static void lastWriter() {
        Run r = new Run(4, 1);
        r.beginAll(1, 4);
        r.write(2, 0, 5, DONE);
        r.writer(0, 2);
        r.add(1, 0, 5, 10);
        r.writer(0, 1);
        r.read(3, 0, 10);
        r.writer(0, 1);
        r.write(4, 0, 6, DONE);
        r.writer(0, 4);
        r.abort(4, 1);
        r.writer(0, 1);
    }

    private static void noLastWriter() {
        Run r = new Run(4, 2);
        r.beginAll(1, 3);
        r.writer(0, 0);
        r.read(1, 0, 0);
        r.writer(0, 0);
        r.write(2, 0, 5, DONE);
        r.abort(2, 1);
        r.writer(0, 0);
        // Nobody is there to be read from.
        r.read(3, 0, 0);
        r.commit(3, 1);
    }
}
