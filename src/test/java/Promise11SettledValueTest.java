final class Promise11SettledValueTest implements Answers {
    public static void main(String[] args) {
        Check.part("Promise 11: settledValue");
        Check.sentence("answers NO_ITEM if x < 0 or x >= items", Promise11SettledValueTest::noItem);
        Check.sentence("the latest log entry that writes x (write or add)", Promise11SettledValueTest::writesAndAdds);
        Check.sentence("whose transaction is SETTLED", Promise11SettledValueTest::onlySettledOnes);
        Check.sentence("0 if there is none", Promise11SettledValueTest::zeroIfNoneIsSettled);
        Check.sentence("0 if there is none", Promise11SettledValueTest::zeroIfOnlyReadsAreSettled);
        Check.sentence("Latest means position in the log.", Promise11SettledValueTest::latestByPosition);
        Check.sentence("Latest means position in the log.", Promise11SettledValueTest::firstPlaceOfTheLog);
        Check.sentence("It changes nothing.", Promise11SettledValueTest::changesNothing);
        Check.finish();
    }

    private static void noItem() {
        Run r = Scenes.everyStatus();
        for (int x : Scenes.BAD_ITEMS) {
            r.settledValue(x, NO_ITEM);
        }
        r.settledValue(0, 0);
        r.settledValue(1, 44);
        r.settledValue(2, 0);
        r = new Run(2, 8);
        r.settledValue(7, 0);
        r.settledValue(8, NO_ITEM);
    }

    private static void writesAndAdds() {
        Run r = new Run(4, 2);
        r.beginAll(1, 2);
        r.write(1, 0, 4, DONE);
        r.add(1, 0, 3, 7);
        r.read(1, 0, 7);
        r.commit(1, 1);
        r.settledValue(0, 7);
        r.write(2, 0, 2, DONE);
        r.settledValue(0, 7);
        r.commit(2, 1);
        r.settledValue(0, 2);
        r.settledValue(1, 0);
    }

    private static void onlySettledOnes() {
        Run r = new Run(6, 1);
        r.beginAll(1, 5);
        r.write(1, 0, 1, DONE);
        r.commit(1, 1);
        r.settledValue(0, 1);
        r.write(2, 0, 2, DONE);
        r.settledValue(0, 1);
        r.add(3, 0, 1, 3);
        r.commit(3, 0);
        r.write(4, 0, 4, DONE);
        r.commit(4, 1);
        r.write(5, 0, 5, DONE);
        r.statuses(SETTLED, ACTIVE, WAITING, COMMITTED, ACTIVE);
        r.settledValue(0, 1);
        r.abort(5, 1);
        r.settledValue(0, 1);
        r.abort(2, 2);
        r.statuses(SETTLED, ABORTED, ABORTED, SETTLED, ABORTED);
        r.settledValue(0, 4);
    }

    private static void zeroIfNoneIsSettled() {
        Run r = new Run(3, 1);
        r.beginAll(1, 2);
        r.settledValue(0, 0);
        r.write(1, 0, 5, DONE);
        r.settledValue(0, 0);
        r.abort(1, 1);
        r.settledValue(0, 0);
        r.write(2, 0, 0, DONE);
        r.commit(2, 1);
        r.settledValue(0, 0);
    }

    private static void zeroIfOnlyReadsAreSettled() {
        Run r = new Run(4, 2);
        r.beginAll(1, 2);
        r.read(1, 0, 0);
        r.commit(1, 1);
        r.write(2, 0, 6, DONE);
        r.status(1, SETTLED);
        r.settledValue(0, 0);
        // A settled read does not hide the settled write before it.
        r.commit(2, 1);
        r.begin(3);
        r.read(3, 0, 6);
        r.commit(3, 1);
        r.settledValue(0, 6);
    }

    private static void latestByPosition() {
        Run r = new Run(4, 2);
        r.beginAll(1, 3);
        r.write(3, 0, 30, DONE);
        r.write(3, 1, 31, DONE);
        r.write(1, 0, 10, DONE);
        r.commit(1, 1);
        r.settledValue(0, 0);
        r.commit(3, 1);
        // 1 wrote last, though it has the smaller number and was committed first.
        r.settledOrder(3, 1);
        r.settledValue(0, 10);
        r.settledValue(1, 31);
    }

    private static void firstPlaceOfTheLog() {
        Run r = new Run(2, 1);
        r.begin(1);
        r.write(1, 0, 5, DONE);
        r.commit(1, 1);
        r.settledValue(0, 5);
        r.begin(2);
        r.readUntilLeft(2, 0, 5, 1);
        r.settledValue(0, 5);
        r.write(2, 0, 6, DONE);
        r.commit(2, 1);
        r.settledValue(0, 6);
    }

    private static void changesNothing() {
        Run r = Scenes.everyStatus();
        Picture earlier = r.picture();
        r.settledValue(0, 0);
        r.settledValue(1, 44);
        r.settledValue(2, 0);
        for (int x : Scenes.BAD_ITEMS) {
            r.settledValue(x, NO_ITEM);
        }
        r.changedSince(earlier);
    }
}
