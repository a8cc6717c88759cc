final class TermsLogTest implements Answers {
    public static void main(String[] args) {
        Check.part("Terms, The log");
        Check.sentence("all operations carried out by read, write and add, in call order", TermsLogTest::inCallOrder);
        Check.sentence("over the whole life of the object", TermsLogTest::overTheWholeLife);
        Check.sentence("An entry has a transaction, an item and a kind (read, write, add)",
                TermsLogTest::whatAnEntryHas);
        Check.sentence("if it is a write or an add, the value it stored", TermsLogTest::theValueStored);
        Check.sentence("Refused operations", TermsLogTest::refusedAreNotEntered);
        Check.sentence("operations that would close a cycle are not entered", TermsLogTest::cyclesAreNotEntered);
        Check.sentence("Entries are never removed.", TermsLogTest::neverRemoved);
        Check.sentence("An entry is standing while its transaction is not ABORTED.", TermsLogTest::standing);
        Check.sentence("A read entry reads; a write entry writes;", TermsLogTest::readsAndWrites);
        Check.sentence("an add entry both reads and writes", TermsLogTest::addsDoBoth);
        Check.sentence("\"Latest\" and \"later\" always mean position in the log.", TermsLogTest::latestByPosition);
        Check.sentence("\"Latest\" and \"later\" always mean position in the log.", TermsLogTest::laterByPosition);
        Check.finish();
    }

    private static void inCallOrder() {
        Run r = new Run(3, 1);
        r.beginAll(1, 2);
        r.write(2, 0, 20, DONE);
        r.write(2, 0, 21, DONE);
        r.add(2, 0, 1, 22);
        r.written(2, 0, 22);
        r.write(1, 0, 10, DONE);
        r.value(0, 10);
        r.before(2, 1, 1);
        r.before(1, 2, 0);
    }

    private static void overTheWholeLife() {
        Run r = new Run(2, 1);
        for (int t = 1; t <= MAX_BEGUN; t++) {
            r.begin(t);
            r.write(t, 0, t, DONE);
            r.add(t, 0, 1, t + 1);
            r.opsLeft(MAX_OPS - 2 * t);
            if (t % 2 == 0) {
                r.abort(t, 1);
            } else {
                r.commit(t, 1);
            }
        }
        r.opsLeft(0);
        r.value(0, MAX_BEGUN);
    }

    private static void whatAnEntryHas() {
        Run r = new Run(3, 4);
        r.beginAll(1, 2);
        r.read(1, 0, 0);
        r.write(1, 1, 5, DONE);
        r.add(1, 2, 6, 6);
        r.access(1, 0, 1);
        r.access(1, 1, 2);
        r.access(1, 2, 3);
        r.access(1, 3, 0);
        for (int x = 0; x < 4; x++) {
            r.access(2, x, 0);
        }
    }

    private static void theValueStored() {
        Run r = new Run(3, 2);
        r.begin(1);
        r.write(1, 0, 5, DONE);
        r.written(1, 0, 5);
        r.add(1, 0, 6, 11);
        // The sum is stored, not what was added; a read stores nothing.
        r.written(1, 0, 11);
        r.read(1, 1, 0);
        r.written(1, 1, NOT_WRITTEN);
    }

    private static void refusedAreNotEntered() {
        Run r = Scenes.everyStatus();
        r.read(7, 2, NO_TXN);
        r.write(2, 2, 5, NOT_ACTIVE);
        r.add(6, 3, 5, NO_ITEM);
        r.write(6, 2, 1000, BAD_VALUE);
        r.add(6, 2, -1, BAD_VALUE);
        r.opsLeft(MAX_OPS - 6);
        r.access(2, 2, 0);
        r.access(6, 2, 0);
        r.value(2, 0);
        // Had one of them been entered, it would come before this one.
        r.write(1, 2, 8, DONE);
        r.before(2, 1, 0);
        r.before(6, 1, 0);
    }

    private static void cyclesAreNotEntered() {
        Run r = new Run(4, 2);
        r.beginAll(1, 3);
        r.read(1, 0, 0);
        r.write(2, 0, 3, DONE);
        r.write(2, 1, 4, DONE);
        r.opsLeft(MAX_OPS - 3);
        r.write(1, 1, 5, CYCLE);
        r.opsLeft(MAX_OPS - 3);
        r.value(1, 4);
        r.writer(1, 2);
        r.settledValue(1, 0);
    }

    private static void neverRemoved() {
        Run r = Scenes.everyStatusAndLogFull();
        r.abort(6, 1);
        r.opsLeft(0);
        r.commit(1, 2);
        r.statuses(SETTLED, SETTLED, SETTLED, SETTLED, ABORTED, ABORTED);
        r.opsLeft(0);
        r.begin(7);
        r.read(7, 0, NO_OPS);
        r.settledValue(0, 33);
        r.settledValue(1, 44);
    }

    private static void standing() {
        Run r = new Run(6, 5);
        r.beginAll(1, 5);
        r.write(1, 0, 10, DONE);
        r.value(0, 10);
        r.read(2, 0, 10);
        r.write(2, 1, 20, DONE);
        r.commit(2, 0);
        r.value(1, 20);
        r.read(1, 2, 0);
        r.write(3, 2, 30, DONE);
        r.commit(3, 1);
        r.value(2, 30);
        r.write(4, 3, 40, DONE);
        r.commit(4, 1);
        r.value(3, 40);
        r.write(5, 4, 50, DONE);
        r.statuses(ACTIVE, WAITING, COMMITTED, SETTLED, ACTIVE);
        r.value(4, 50);
        r.abort(5, 1);
        r.value(4, 0);
    }

    private static void readsAndWrites() {
        Run r = new Run(3, 2);
        r.begin(1);
        r.read(1, 0, 0);
        r.access(1, 0, 1);
        r.writer(0, 0);
        r.write(1, 1, 5, DONE);
        r.access(1, 1, 2);
        r.writer(1, 1);
    }

    private static void addsDoBoth() {
        Run r = new Run(3, 1);
        r.beginAll(1, 2);
        r.write(1, 0, 4, DONE);
        r.add(2, 0, 1, 5);
        r.access(2, 0, 3);
        r.waitsFor(2, 1, 1);
        r.writer(0, 2);
    }

    private static void latestByPosition() {
        Run r = new Run(4, 1);
        r.beginAll(1, 3);
        r.write(3, 0, 30, DONE);
        r.write(1, 0, 10, DONE);
        r.write(2, 0, 20, DONE);
        r.value(0, 20);
        // Neither the greatest number nor the last commit makes a write the latest.
        r.commit(2, 1);
        r.commit(1, 1);
        r.value(0, 20);
        r.commit(3, 1);
        r.statuses(SETTLED, SETTLED, SETTLED);
        r.value(0, 20);
        r.settledValue(0, 20);
    }

    private static void laterByPosition() {
        Run r = new Run(4, 1);
        r.beginAll(1, 3);
        r.write(3, 0, 30, DONE);
        r.write(1, 0, 10, DONE);
        r.write(2, 0, 20, DONE);
        r.before(3, 1, 1);
        r.before(1, 2, 1);
        r.before(3, 2, 1);
        r.before(1, 3, 0);
        r.before(2, 1, 0);
        r.before(2, 3, 0);
    }
}
