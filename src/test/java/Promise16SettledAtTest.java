final class Promise16SettledAtTest implements Answers {
    private static final int[] NEVER_A_PLACE = {LOW, -64, -1, 64, 65, HIGH};

    public static void main(String[] args) {
        Check.part("Promise 16: settledAt");
        Check.sentence("the number of the transaction at place k (counted from 0) of the settled order",
                Promise16SettledAtTest::countedFromZero);
        Check.sentence("the number of the transaction at place k (counted from 0) of the settled order",
                Promise16SettledAtTest::allPlaces);
        Check.sentence("0 if there is no such place", Promise16SettledAtTest::noneAtFirst);
        Check.sentence("if k is negative", Promise16SettledAtTest::negative);
        Check.sentence("or not less than the number of settled transactions", Promise16SettledAtTest::beyondTheLast);
        Check.sentence("A place once filled keeps its transaction for good.", Promise16SettledAtTest::keptForGood);
        Check.sentence("It changes nothing.", Promise16SettledAtTest::changesNothing);
        Check.finish();
    }

    private static void countedFromZero() {
        Run r = new Run(6, 1);
        r.beginAll(1, 5);
        r.commit(3, 1);
        r.settledAt(0, 3);
        r.commit(5, 1);
        r.settledAt(0, 3);
        r.settledAt(1, 5);
        r.commit(1, 1);
        r.settledAt(2, 1);
    }

    private static void allPlaces() {
        Run r = new Run(16, 1);
        for (int first = 1; first <= MAX_BEGUN; first += 16) {
            r.beginAll(first, first + 15);
            for (int t = first + 15; t >= first; t--) {
                r.commit(t, 1);
            }
        }
        for (int k = 0; k < MAX_BEGUN; k++) {
            r.settledAt(k, k / 16 * 16 + 16 - k % 16);
        }
        for (int k : NEVER_A_PLACE) {
            r.settledAt(k, 0);
        }
    }

    private static void noneAtFirst() {
        Run r = new Run(2, 1);
        r.settledAt(0, 0);
        r.settledAt(63, 0);
        for (int k : NEVER_A_PLACE) {
            r.settledAt(k, 0);
        }
        // Neither begun, waiting, committed nor aborted ones have a place.
        r = Scenes.everyStatus();
        r.settledAt(0, 4);
        r.settledAt(1, 0);
    }

    private static void negative() {
        Run r = Scenes.everyStatus();
        for (int k : new int[] {-1, -2, -63, -64, -65, LOW + 1, LOW}) {
            r.settledAt(k, 0);
        }
    }

    private static void beyondTheLast() {
        Run r = new Run(3, 1);
        r.beginAll(1, 3);
        r.settledAt(0, 0);
        r.commit(2, 1);
        r.settledAt(0, 2);
        r.settledAt(1, 0);
        r.commit(3, 1);
        r.settledAt(1, 3);
        for (int k : new int[] {2, 3, 62, 63, 64, 65, HIGH}) {
            r.settledAt(k, 0);
        }
    }

    private static void keptForGood() {
        Run r = new Run(6, 1);
        r.beginAll(1, 5);
        r.commit(4, 1);
        r.settledOrder(4);
        r.read(1, 0, 0);
        r.write(2, 0, 1, DONE);
        r.commit(2, 1);
        r.settledOrder(4);
        r.commit(3, 1);
        r.settledOrder(4, 3);
        r.abort(5, 1);
        r.settledOrder(4, 3);
        // 1 and 2 have smaller numbers, but come after those settled before.
        r.commit(1, 1);
        r.settledOrder(4, 3, 1, 2);
    }

    private static void changesNothing() {
        Run r = Scenes.everyStatus();
        Picture earlier = r.picture();
        for (int k = -2; k <= MAX_BEGUN + 1; k++) {
            r.settledAt(k, k == 0 ? 4 : 0);
        }
        r.changedSince(earlier);
        r.commit(6, 1);
        r.settledOrder(4, 6);
    }
}
