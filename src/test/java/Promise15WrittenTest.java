final class Promise15WrittenTest implements Answers {
    public static void main(String[] args) {
        Check.part("Promise 15: written");
        Check.sentence("written(t, x), refusals in order:", Promise15WrittenTest::refusalsInOrder);
        Check.sentence("t < 1 or t > begun: NO_TXN.", Promise15WrittenTest::noTransaction);
        Check.sentence("t is not open: NOT_OPEN.", Promise15WrittenTest::notOpen);
        Check.sentence("x < 0 or x >= items: NO_ITEM.", Promise15WrittenTest::noItem);
        Check.sentence("the value stored by the latest log entry of t that writes x (write or add)",
                Promise15WrittenTest::latestWriteOrAdd);
        Check.sentence("the value stored by the latest log entry of t that writes x (write or add)",
                Promise15WrittenTest::firstAndLastPlaceOfTheLog);
        Check.sentence("whether or not others have written x since", Promise15WrittenTest::othersWroteSince);
        Check.sentence("NOT_WRITTEN if there is none", Promise15WrittenTest::notWritten);
        Check.sentence("NOT_WRITTEN if there is none", Promise15WrittenTest::zeroIsWritten);
        Check.sentence("It changes nothing.", Promise15WrittenTest::changesNothing);
        Check.finish();
    }

    private static void refusalsInOrder() {
        Run r = Scenes.everyStatus();
        r.written(7, 3, NO_TXN);
        r.written(0, -1, NO_TXN);
        r.written(4, 3, NOT_OPEN);
        r.written(5, -1, NOT_OPEN);
        r.written(6, 3, NO_ITEM);
    }

    private static void noTransaction() {
        new Run(2, 1).written(1, 0, NO_TXN);
        Run r = Scenes.everyStatus();
        for (int t : Scenes.NOT_BEGUN) {
            r.written(t, 0, NO_TXN);
        }
        r = Scenes.allBegun();
        r.written(MAX_BEGUN + 1, 0, NO_TXN);
        r.written(MAX_BEGUN, 0, NOT_WRITTEN);
    }

    private static void notOpen() {
        Run r = Scenes.everyStatus();
        r.written(4, 1, NOT_OPEN);
        r.written(4, 0, NOT_OPEN);
        r.written(5, 2, NOT_OPEN);
        r.written(5, 0, NOT_OPEN);
        // The other three statuses are open.
        r.written(1, 0, 11);
        r.written(2, 0, 12);
        r.written(3, 0, 33);
    }

    private static void noItem() {
        Run r = Scenes.everyStatus();
        for (int x : Scenes.BAD_ITEMS) {
            r.written(1, x, NO_ITEM);
        }
        r.written(1, 0, 11);
        r.written(1, 2, NOT_WRITTEN);
    }

    private static void latestWriteOrAdd() {
        Run r = new Run(2, 2);
        r.begin(1);
        r.write(1, 0, 8, DONE);
        r.written(1, 0, 8);
        r.add(1, 0, 5, 13);
        r.written(1, 0, 13);
        r.read(1, 0, 13);
        r.written(1, 0, 13);
        r.write(1, 1, 7, DONE);
        r.written(1, 0, 13);
        r.write(1, 0, 2, DONE);
        r.written(1, 0, 2);
        r.add(1, 1, 999, 6);
        r.written(1, 1, 6);
    }

    private static void firstAndLastPlaceOfTheLog() {
        Run r = new Run(2, 2);
        r.begin(1);
        r.write(1, 0, 3, DONE);
        r.readUntilLeft(1, 0, 3, 1);
        r.written(1, 0, 3);
        r.write(1, 1, 4, DONE);
        r.written(1, 1, 4);
        r.written(1, 0, 3);
    }

    private static void othersWroteSince() {
        Run r = new Run(4, 1);
        r.beginAll(1, 3);
        r.write(1, 0, 10, DONE);
        r.write(2, 0, 20, DONE);
        r.add(3, 0, 1, 21);
        r.written(1, 0, 10);
        r.written(2, 0, 20);
        r.written(3, 0, 21);
        r.abort(2, 2);
        r.written(1, 0, 10);
    }

    private static void notWritten() {
        Run r = new Run(3, 2);
        r.beginAll(1, 2);
        r.written(1, 0, NOT_WRITTEN);
        r.write(2, 0, 5, DONE);
        r.written(1, 0, NOT_WRITTEN);
        r.read(1, 0, 5);
        r.written(1, 0, NOT_WRITTEN);
        r.written(2, 1, NOT_WRITTEN);
    }

    private static void zeroIsWritten() {
        Run r = new Run(2, 2);
        r.begin(1);
        r.write(1, 0, 0, DONE);
        r.written(1, 0, 0);
        r.add(1, 1, 0, 0);
        r.written(1, 1, 0);
    }

    private static void changesNothing() {
        Run r = Scenes.everyStatus();
        Picture earlier = r.picture();
        for (int t : new int[] {LOW, 0, 1, 2, 3, 4, 5, 6, 7, HIGH}) {
            for (int x : new int[] {LOW, -1, 0, 1, 2, 3, HIGH}) {
                r.scheduler().written(t, x);
            }
        }
        r.changedSince(earlier);
    }
}
