final class Promise01ConstructionTest implements Answers {
    private static final int[] EVERY_SORT = {LOW, LOW + 1, -65536, -256, -16, -8, -3, -2, -1, 0, 1, 2, 3, 7, 8, 9, 15,
            16, 17, 18, 64, 255, 256, 257, 65536, 65538, 1 << 30, HIGH - 1, HIGH};

    public static void main(String[] args) {
        Check.part("Promise 1: Construction and the start");
        Check.sentence("makes a scheduler", Promise01ConstructionTest::objectsAreApart);
        Check.sentence("makes a scheduler", Promise01ConstructionTest::objectsOfOtherSizesAreApart);
        Check.sentence("slots is the greatest number of open transactions at one time",
                Promise01ConstructionTest::slotsWithin);
        Check.sentence("a value below 2 becomes 2", Promise01ConstructionTest::slotsBelow);
        Check.sentence("a value above 16 becomes 16", Promise01ConstructionTest::slotsAbove);
        Check.sentence("items is the number of items", Promise01ConstructionTest::itemsWithin);
        Check.sentence("a value below 1 becomes 1", Promise01ConstructionTest::itemsBelow);
        Check.sentence("a value above 8 becomes 8", Promise01ConstructionTest::itemsAbove);
        Check.sentence("This holds for every int.", Promise01ConstructionTest::everyInt);
        Check.sentence("slots and items mean these adjusted numbers", Promise01ConstructionTest::bothAdjusted);
        Check.sentence("they never change", Promise01ConstructionTest::neverChange);
        Check.sentence("At first begun is 0", Promise01ConstructionTest::nothingBegun);
        Check.sentence("the log and the settled order are empty", Promise01ConstructionTest::emptyLogAndOrder);
        Check.sentence("no transaction exists, nobody has read from anybody", Promise01ConstructionTest::noTransaction);
        Check.sentence("and every item has value 0", Promise01ConstructionTest::everyItemIsZero);
        Check.finish();
    }

    private static void hasSlots(int asked, int given) {
        Run r = new Run(asked, 3);
        r.beginAll(1, given);
        r.begin(FULL);
    }

    private static void hasItems(int asked, int given) {
        Run r = new Run(3, asked);
        r.begin(1);
        for (int x = 0; x < given; x++) {
            r.value(x, 0);
            r.write(1, x, x + 1, DONE);
        }
        for (int x = 0; x < given; x++) {
            r.value(x, x + 1);
        }
        r.value(given, NO_ITEM);
        r.write(1, given, 1, NO_ITEM);
    }

    private static void objectsAreApart() {
        Run first = new Run(2, 1);
        Run second = new Run(2, 1);
        first.begin(1);
        first.write(1, 0, 9, DONE);
        first.commit(1, 1);
        second.status(1, NONE);
        second.value(0, 0);
        second.settledAt(0, 0);
        second.opsLeft(MAX_OPS);
        second.begin(1);
    }

    private static void objectsOfOtherSizesAreApart() {
        Run small = new Run(2, 1);
        Run large = new Run(3, 2);
        small.beginAll(1, 2);
        large.beginAll(1, 3);
        small.begin(FULL);
        large.write(3, 1, 7, DONE);
        small.write(1, 0, 5, DONE);
        large.add(2, 1, 1, 8);
        small.read(2, 0, 5);
        small.commit(2, 0);
        large.commit(3, 1);
        small.write(1, 1, 5, NO_ITEM);
        small.value(0, 5);
        large.value(1, 8);
        large.value(0, 0);
        small.commit(1, 2);
        large.commit(2, 1);
        small.statuses(SETTLED, SETTLED, NONE);
        large.statuses(ACTIVE, SETTLED, SETTLED);
        small.settledOrder(1, 2);
        large.settledOrder(3, 2);
        small.settledValue(0, 5);
        large.settledValue(1, 8);
    }

    private static void slotsWithin() {
        for (int slots = 2; slots <= 16; slots++) {
            hasSlots(slots, slots);
        }
    }

    private static void slotsBelow() {
        hasSlots(1, 2);
        hasSlots(0, 2);
        hasSlots(-1, 2);
    }

    private static void slotsAbove() {
        hasSlots(17, 16);
        hasSlots(18, 16);
        hasSlots(1000, 16);
    }

    private static void itemsWithin() {
        for (int items = 1; items <= 8; items++) {
            hasItems(items, items);
        }
    }

    private static void itemsBelow() {
        hasItems(0, 1);
        hasItems(-1, 1);
        hasItems(-2, 1);
    }

    private static void itemsAbove() {
        hasItems(9, 8);
        hasItems(10, 8);
        hasItems(1000, 8);
    }

    private static void everyInt() {
        for (int n : EVERY_SORT) {
            hasSlots(n, n < 2 ? 2 : n > 16 ? 16 : n);
            hasItems(n, n < 1 ? 1 : n > 8 ? 8 : n);
        }
    }

    private static void bothAdjusted() {
        int[][] cases = {{LOW, HIGH, 2, 8}, {HIGH, LOW, 16, 1}, {LOW, LOW, 2, 1}, {HIGH, HIGH, 16, 8},
                {5, 3, 5, 3}, {3, 5, 3, 5}};
        for (int[] c : cases) {
            Run r = new Run(c[0], c[1]);
            r.beginAll(1, c[2]);
            r.begin(FULL);
            r.value(c[3] - 1, 0);
            r.value(c[3], NO_ITEM);
        }
    }

    private static void neverChange() {
        Run r = new Run(3, 2);
        r.beginAll(1, 3);
        for (int t = 1; t <= 30; t++) {
            r.begin(FULL);
            r.write(t, 1, t, DONE);
            r.write(t, 2, t, NO_ITEM);
            if (t % 2 == 0) {
                r.commit(t, 1);
            } else {
                r.abort(t, 1);
            }
            r.begin(t + 3);
        }
        r.begin(FULL);
        r.value(1, 30);
        r.value(2, NO_ITEM);
    }

    private static void nothingBegun() {
        Run r = new Run(16, 8);
        r.read(1, 0, NO_TXN);
        r.commit(1, NO_TXN);
        r.abort(1, NO_TXN);
        r.begin(1);
    }

    private static void emptyLogAndOrder() {
        Run r = new Run(16, 8);
        r.opsLeft(MAX_OPS);
        for (int k = -1; k <= MAX_BEGUN; k++) {
            r.settledAt(k, 0);
        }
    }

    private static void noTransaction() {
        Run r = new Run(16, 8);
        for (int t = -1; t <= MAX_BEGUN + 1; t++) {
            r.status(t, NONE);
            r.before(t, 1, NO_TXN);
            r.waitsFor(t, 1, NO_TXN);
            r.access(t, 0, NO_TXN);
            r.written(t, 0, NO_TXN);
        }
        r.beginAll(1, 16);
        for (int t = 1; t <= 16; t++) {
            for (int u = 1; u <= 16; u++) {
                r.waitsFor(t, u, 0);
                r.before(t, u, 0);
            }
        }
    }

    private static void everyItemIsZero() {
        Run r = new Run(16, 8);
        for (int x = 0; x < 8; x++) {
            r.value(x, 0);
            r.writer(x, 0);
            r.settledValue(x, 0);
        }
    }
}
