final class Promise09ValueTest implements Answers {
    public static void main(String[] args) {
        Check.part("Promise 9: value");
        Check.sentence("answers NO_ITEM if x < 0 or x >= items", Promise09ValueTest::noItem);
        Check.sentence("otherwise the current value of x", Promise09ValueTest::currentValue);
        Check.sentence("otherwise the current value of x", Promise09ValueTest::nothingStands);
        Check.sentence("otherwise the current value of x", Promise09ValueTest::ofEveryStatus);
        Check.sentence("otherwise the current value of x", Promise09ValueTest::smallestAndGreatest);
        Check.sentence("It changes nothing.", Promise09ValueTest::changesNothing);
        Check.finish();
    }

    private static void noItem() {
        Run r = Scenes.everyStatus();
        for (int x : Scenes.BAD_ITEMS) {
            r.value(x, NO_ITEM);
        }
        r.value(0, 33);
        r.value(2, 0);
        r = new Run(2, 8);
        r.value(7, 0);
        r.value(8, NO_ITEM);
    }

    private static void currentValue() {
        Run r = new Run(5, 2);
        r.beginAll(1, 3);
        r.write(1, 1, 500, DONE);
        r.value(1, 500);
        r.read(2, 1, 500);
        r.value(1, 500);
        r.add(2, 1, 2, 502);
        r.value(1, 502);
        r.write(3, 1, 50, DONE);
        r.value(1, 50);
        r.abort(1, 2);
        r.value(1, 50);
        r.value(0, 0);
    }

    private static void nothingStands() {
        Run r = new Run(3, 2);
        r.beginAll(1, 2);
        r.value(0, 0);
        r.read(1, 0, 0);
        r.value(0, 0);
        r.write(2, 0, 9, DONE);
        r.value(0, 9);
        r.abort(2, 1);
        r.value(0, 0);
    }

    private static void ofEveryStatus() {
        Run r = new Run(4, 1);
        r.beginAll(1, 3);
        r.read(3, 0, 0);
        r.write(1, 0, 1, DONE);
        r.add(2, 0, 1, 2);
        r.value(0, 2);
        r.commit(2, 0);
        r.value(0, 2);
        r.commit(1, 2);
        r.value(0, 2);
        r.commit(3, 1);
        r.statuses(SETTLED, SETTLED, SETTLED);
        r.value(0, 2);
    }

    private static void smallestAndGreatest() {
        Run r = new Run(2, 1);
        r.begin(1);
        for (int v : new int[] {999, 0, 998, 1}) {
            r.write(1, 0, v, DONE);
            r.value(0, v);
        }
    }

    private static void changesNothing() {
        Run r = Scenes.everyStatus();
        Picture earlier = r.picture();
        r.value(0, 33);
        r.value(1, 44);
        r.value(2, 0);
        for (int x : Scenes.BAD_ITEMS) {
            r.value(x, NO_ITEM);
        }
        r.changedSince(earlier);
    }
}
