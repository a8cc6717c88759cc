final class Promise14AccessTest implements Answers {
    public static void main(String[] args) {
        Check.part("Promise 14: access");
        Check.sentence("access(t, x), refusals in order:", Promise14AccessTest::refusalsInOrder);
        Check.sentence("t < 1 or t > begun: NO_TXN.", Promise14AccessTest::noTransaction);
        Check.sentence("t is not open: NOT_OPEN.", Promise14AccessTest::notOpen);
        Check.sentence("x < 0 or x >= items: NO_ITEM.", Promise14AccessTest::noItem);
        Check.sentence("1 if the log has an entry of t that reads x (read or add)", Promise14AccessTest::reads);
        Check.sentence("2 if it has one that writes x (write or add)", Promise14AccessTest::writes);
        Check.sentence("Otherwise the sum of", Promise14AccessTest::sum);
        Check.sentence("an entry of t", Promise14AccessTest::ownEntriesAlone);
        Check.sentence("an entry of t", Promise14AccessTest::lastPlaceOfTheLog);
        Check.sentence("So the answer is 0, 1, 2 or 3", Promise14AccessTest::everyAnswer);
        Check.sentence("a single add alone gives 3", Promise14AccessTest::singleAdd);
        Check.sentence("It changes nothing.", Promise14AccessTest::changesNothing);
        Check.finish();
    }

    private static void refusalsInOrder() {
        Run r = Scenes.everyStatus();
        r.access(7, 3, NO_TXN);
        r.access(0, -1, NO_TXN);
        r.access(4, 3, NOT_OPEN);
        r.access(5, -1, NOT_OPEN);
        r.access(6, 3, NO_ITEM);
    }

    private static void noTransaction() {
        new Run(2, 1).access(1, 0, NO_TXN);
        Run r = Scenes.everyStatus();
        for (int t : Scenes.NOT_BEGUN) {
            r.access(t, 0, NO_TXN);
        }
        r = Scenes.allBegun();
        r.access(MAX_BEGUN + 1, 0, NO_TXN);
        r.access(MAX_BEGUN, 0, 0);
    }

    private static void notOpen() {
        Run r = Scenes.everyStatus();
        r.access(4, 1, NOT_OPEN);
        r.access(4, 0, NOT_OPEN);
        r.access(5, 2, NOT_OPEN);
        r.access(5, 0, NOT_OPEN);
        // The other three statuses are open.
        r.access(1, 0, 2);
        r.access(2, 0, 3);
        r.access(3, 0, 2);
    }

    private static void noItem() {
        Run r = Scenes.everyStatus();
        for (int x : Scenes.BAD_ITEMS) {
            r.access(6, x, NO_ITEM);
        }
        r.access(6, 0, 0);
        r.access(6, 2, 0);
    }

    private static void reads() {
        Run r = new Run(2, 2);
        r.begin(1);
        r.read(1, 0, 0);
        r.access(1, 0, 1);
        r.access(1, 1, 0);
        r.read(1, 0, 0);
        r.access(1, 0, 1);
    }

    private static void writes() {
        Run r = new Run(2, 2);
        r.begin(1);
        r.write(1, 1, 5, DONE);
        r.access(1, 1, 2);
        r.access(1, 0, 0);
        r.write(1, 1, 6, DONE);
        r.access(1, 1, 2);
    }

    private static void sum() {
        Run r = new Run(2, 3);
        r.begin(1);
        r.read(1, 0, 0);
        r.write(1, 0, 5, DONE);
        r.access(1, 0, 3);
        r.write(1, 1, 5, DONE);
        r.read(1, 1, 5);
        r.access(1, 1, 3);
        r.add(1, 0, 1, 6);
        r.access(1, 0, 3);
    }

    private static void ownEntriesAlone() {
        Run r = new Run(3, 2);
        r.beginAll(1, 2);
        r.read(1, 0, 0);
        r.write(2, 0, 6, DONE);
        r.access(1, 0, 1);
        r.access(2, 0, 2);
        r.access(1, 1, 0);
        // Its entries stay its own in every open status.
        r.commit(2, 1);
        r.status(2, COMMITTED);
        r.access(2, 0, 2);
    }

    private static void lastPlaceOfTheLog() {
        Run r = new Run(2, 2);
        r.begin(1);
        r.write(1, 0, 3, DONE);
        r.readUntilLeft(1, 0, 3, 1);
        r.access(1, 0, 3);
        r.access(1, 1, 0);
        r.write(1, 1, 3, DONE);
        r.access(1, 1, 2);
    }

    private static void everyAnswer() {
        Run r = new Run(2, 4);
        r.begin(1);
        r.read(1, 1, 0);
        r.write(1, 2, 1, DONE);
        r.add(1, 3, 1, 1);
        for (int x = 0; x <= 3; x++) {
            r.access(1, x, x);
        }
    }

    private static void singleAdd() {
        Run r = new Run(2, 1);
        r.begin(1);
        r.add(1, 0, 0, 0);
        r.access(1, 0, 3);
    }

    private static void changesNothing() {
        Run r = Scenes.everyStatus();
        Picture earlier = r.picture();
        for (int t : new int[] {LOW, 0, 1, 2, 3, 4, 5, 6, 7, HIGH}) {
            for (int x : new int[] {LOW, -1, 0, 1, 2, 3, HIGH}) {
                r.scheduler().access(t, x);
            }
        }
        r.changedSince(earlier);
    }
}
