final class Promise01ConstructionTest implements Answers {
    public static void main(String[] args) {
        int[][] slotCases = {{LOW, 2}, {-1, 2}, {0, 2}, {1, 2}, {2, 2}, {3, 3}, {15, 15}, {16, 16}, {17, 16}, {HIGH, 16}};
        for (int[] c : slotCases) {
            slots(c[0], c[1]);
        }
        int[][] itemCases = {{LOW, 1}, {-1, 1}, {0, 1}, {1, 1}, {2, 2}, {7, 7}, {8, 8}, {9, 8}, {HIGH, 8}};
        for (int[] c : itemCases) {
            items(c[0], c[1]);
        }
        start();
        objectsAreApart();
        Check.finish();
    }

    private static void slots(int asked, int given) {
        Run r = new Run("slots " + asked, asked, 3);
        r.beginAll(1, given);
        r.begin(FULL);
    }

    private static void items(int asked, int given) {
        Run r = new Run("items " + asked, 4, asked);
        r.begin(1);
        for (int x = 0; x < given; x++) {
            r.value(x, 0);
            r.write(1, x, x + 1, DONE);
        }
        for (int x = 0; x < given; x++) {
            r.value(x, x + 1);
        }
        r.value(given, NO_ITEM);
        r.write(1, given, 1, NO_ITEM);
    }

    private static void start() {
        Run r = new Run("start", 16, 8);
        for (int t = -1; t <= MAX_BEGUN + 1; t++) {
            r.status(t, NONE);
            r.settledAt(t, 0);
        }
        for (int x = 0; x < 8; x++) {
            r.value(x, 0);
            r.writer(x, 0);
            r.settledValue(x, 0);
        }
        r.before(1, 1, NO_TXN);
        r.waitsFor(1, 1, NO_TXN);
        r.access(1, 0, NO_TXN);
        r.written(1, 0, NO_TXN);
        r.opsLeft(MAX_OPS);
        r.begin(1);
    }

    private static void objectsAreApart() {
        Run first = new Run("first of two", 2, 1);
        Run second = new Run("second of two", 2, 1);
        first.begin(1);
        first.write(1, 0, 9, DONE);
        second.status(1, NONE);
        second.value(0, 0);
        second.opsLeft(MAX_OPS);
        second.begin(1);
    }
}
