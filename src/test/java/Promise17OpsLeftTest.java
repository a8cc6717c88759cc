final class Promise17OpsLeftTest implements Answers {
    public static void main(String[] args) {
        Check.part("Promise 17: opsLeft");
        Check.sentence("opsLeft() answers MAX_OPS less the number of log entries.",
                Promise17OpsLeftTest::eachEntryCounts);
        Check.sentence("opsLeft() answers MAX_OPS less the number of log entries.", Promise17OpsLeftTest::downToZero);
        Check.sentence("Entries of ABORTED transactions count as well", Promise17OpsLeftTest::abortedCount);
        Check.sentence("so the answer never grows", Promise17OpsLeftTest::neverGrows);
        Check.sentence("Operations refused", Promise17OpsLeftTest::refusedDoNotCount);
        Check.sentence("or answered with CYCLE make no entry and do not lower it",
                Promise17OpsLeftTest::cyclesDoNotCount);
        Check.sentence("It changes nothing.", Promise17OpsLeftTest::changesNothing);
        Check.finish();
    }

    private static void eachEntryCounts() {
        Run r = new Run(3, 1);
        r.opsLeft(MAX_OPS);
        r.begin(1);
        r.opsLeft(MAX_OPS);
        r.read(1, 0, 0);
        r.opsLeft(MAX_OPS - 1);
        r.write(1, 0, 1, DONE);
        r.opsLeft(MAX_OPS - 2);
        r.add(1, 0, 1, 2);
        r.opsLeft(MAX_OPS - 3);
        r.read(1, 0, 2);
        r.opsLeft(MAX_OPS - 4);
        r.commit(1, 1);
        r.opsLeft(MAX_OPS - 4);
    }

    private static void downToZero() {
        Run r = new Run(2, 1);
        r.begin(1);
        for (int left = MAX_OPS - 1; left >= 0; left--) {
            r.write(1, 0, left, DONE);
            r.opsLeft(left);
        }
        r.write(1, 0, 1, NO_OPS);
        r.opsLeft(0);
        r.value(0, 0);
    }

    private static void abortedCount() {
        Run r = new Run(3, 1);
        r.beginAll(1, 2);
        r.write(1, 0, 1, DONE);
        r.add(2, 0, 1, 2);
        r.read(2, 0, 2);
        r.abort(1, 2);
        r.opsLeft(MAX_OPS - 3);
        r.begin(3);
        r.write(3, 0, 1, DONE);
        r.opsLeft(MAX_OPS - 4);
    }

    private static void neverGrows() {
        Run r = Scenes.everyStatusAndLogFull();
        r.abort(6, 1);
        r.opsLeft(0);
        r.abort(1, 2);
        r.opsLeft(0);
        // The log is full for good, but transactions can still begin and end.
        r.begin(7);
        r.read(7, 0, NO_OPS);
        r.commit(7, 1);
        r.opsLeft(0);
    }

    private static void refusedDoNotCount() {
        Run r = Scenes.everyStatus();
        int left = MAX_OPS - 6;
        r.read(0, 0, NO_TXN);
        r.opsLeft(left);
        r.write(2, 0, 1, NOT_ACTIVE);
        r.opsLeft(left);
        r.add(6, 3, 1, NO_ITEM);
        r.opsLeft(left);
        r.write(6, 0, 1000, BAD_VALUE);
        r.opsLeft(left);
        r.add(6, 0, -1, BAD_VALUE);
        r.opsLeft(left);
        r = Scenes.everyStatusAndLogFull();
        r.read(6, 0, NO_OPS);
        r.write(6, 0, 1, NO_OPS);
        r.add(6, 0, 1, NO_OPS);
        r.opsLeft(0);
    }

    private static void cyclesDoNotCount() {
        Run r = Scenes.everyStatus();
        r.read(1, 0, CYCLE);
        r.opsLeft(MAX_OPS - 6);
        r = Scenes.everyStatus();
        r.write(1, 0, 1, CYCLE);
        r.opsLeft(MAX_OPS - 6);
        r = Scenes.everyStatus();
        r.add(1, 0, 1, CYCLE);
        r.opsLeft(MAX_OPS - 6);
    }

    private static void changesNothing() {
        Run r = Scenes.everyStatus();
        Picture earlier = r.picture();
        for (int call = 0; call < MAX_OPS + 2; call++) {
            r.opsLeft(MAX_OPS - 6);
        }
        r.changedSince(earlier);
    }
}
