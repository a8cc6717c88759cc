final class TermsItemsTest implements Answers {
    public static void main(String[] args) {
        Check.part("Terms, Items");
        Check.sentence("Items are numbered 0 .. items-1.", TermsItemsTest::numberedFromZero);
        Check.sentence("Values are 0 .. 999.", TermsItemsTest::valuesWritten);
        Check.sentence("Values are 0 .. 999.", TermsItemsTest::valuesAdded);
        Check.sentence("Every item starts with value 0.", TermsItemsTest::startsWithZero);
        Check.finish();
    }

    private static void numberedFromZero() {
        for (int items = 1; items <= 8; items++) {
            Run r = new Run(2, items);
            r.begin(1);
            for (int x = 0; x < items; x++) {
                isAnItem(r, x);
            }
            isNoItem(r, -1);
            isNoItem(r, items);
        }
    }

    private static void isAnItem(Run r, int x) {
        r.read(1, x, 0);
        r.write(1, x, 5 + x, DONE);
        r.add(1, x, 1, 6 + x);
        r.value(x, 6 + x);
        r.writer(x, 1);
        r.settledValue(x, 0);
        r.access(1, x, 3);
        r.written(1, x, 6 + x);
    }

    private static void isNoItem(Run r, int x) {
        r.read(1, x, NO_ITEM);
        r.write(1, x, 5, NO_ITEM);
        r.add(1, x, 1, NO_ITEM);
        r.value(x, NO_ITEM);
        r.writer(x, NO_ITEM);
        r.settledValue(x, NO_ITEM);
        r.access(1, x, NO_ITEM);
        r.written(1, x, NO_ITEM);
    }

    private static void valuesWritten() {
        Run r = new Run(2, 1);
        r.begin(1);
        for (int v : new int[] {0, 1, 127, 128, 255, 256, 500, 998, 999}) {
            r.write(1, 0, v, DONE);
            r.value(0, v);
            r.read(1, 0, v);
            r.written(1, 0, v);
        }
        for (int v : Scenes.BAD_VALUES) {
            r.write(1, 0, v, BAD_VALUE);
        }
        r.commit(1, 1);
        r.settledValue(0, 999);
    }

    private static void valuesAdded() {
        Run r = new Run(2, 1);
        r.begin(1);
        r.write(1, 0, 999, DONE);
        r.add(1, 0, 1, 0);
        r.value(0, 0);
        r.add(1, 0, 999, 999);
        r.add(1, 0, 999, 998);
        r.value(0, 998);
        for (int d : Scenes.BAD_VALUES) {
            r.add(1, 0, d, BAD_VALUE);
        }
    }

    private static void startsWithZero() {
        Run r = new Run(3, 8);
        r.beginAll(1, 2);
        for (int x = 0; x < 8; x++) {
            r.value(x, 0);
            r.settledValue(x, 0);
            r.read(1, x, 0);
            r.add(2, x, 3, 3);
        }
    }
}
