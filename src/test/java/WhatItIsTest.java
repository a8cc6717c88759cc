import java.lang.reflect.Field;
import java.lang.reflect.Modifier;

final class WhatItIsTest implements Answers {
    private static final int MIXED_RUNS = 60;

    public static void main(String[] args) {
        Check.part("What it is");
        Check.sentence("GraphScheduler is a scheduler for read/write transactions on a few shared items.",
                WhatItIsTest::itemsAreShared);
        Check.sentence("Operations of several transactions interleave freely.", WhatItIsTest::takeTurns);
        Check.sentence("Each operation orders its transaction after all transactions with an earlier "
                + "conflicting operation on the same item", WhatItIsTest::ordersAfterAllEarlierConflicts);
        Check.sentence("an operation that would close a cycle of conflicts is not done, and its transaction is "
                + "aborted", WhatItIsTest::cycleIsNotDone);
        Check.sentence("the reader can then commit only after the one it read from", WhatItIsTest::readerCommitsAfter);
        Check.sentence("and aborts with it", WhatItIsTest::readerAbortsWithIt);
        Check.sentence("Writes of aborted transactions are taken back", WhatItIsTest::writesAreTakenBack);
        Check.sentence("Committed transactions are settled into a serial order that only grows.",
                WhatItIsTest::serialOrder);
        Check.sentence("Public constants (all public static final int)", WhatItIsTest::constantsArePublic);
        Check.sentence("Statuses: NONE = 0, ACTIVE = 1, WAITING = 2, COMMITTED = 3, SETTLED = 4, ABORTED = 5.",
                WhatItIsTest::statuses);
        Check.sentence("Answers: DONE = 0, NO_TXN = -1, NOT_ACTIVE = -2, NO_ITEM = -3, BAD_VALUE = -4, NO_OPS = -5, "
                + "CYCLE = -6, FULL = -7, NO_MORE = -8, NOT_OPEN = -9, NOT_WRITTEN = -10.", WhatItIsTest::answers);
        Check.sentence("MAX_BEGUN = 64 (transactions ever begun)", WhatItIsTest::transactionsEverBegun);
        Check.sentence("MAX_OPS = 128 (log entries ever made)", WhatItIsTest::entriesEverMade);
        Check.finish();
    }

    private static void itemsAreShared() {
        Run r = new Run(2, 8);
        r.beginAll(1, 2);
        for (int x = 0; x < 8; x++) {
            r.write(1, x, 100 + x, DONE);
        }
        for (int x = 0; x < 8; x++) {
            r.read(2, x, 100 + x);
        }
    }

    private static void takeTurns() {
        Run r = new Run(16, 8);
        r.beginAll(1, 16);
        // All go over the items in the same order, so that nothing closes a cycle.
        for (int x = 0; x < 8; x++) {
            for (int t = 1; t <= 16; t++) {
                r.add(t, x, 1, t);
            }
        }
        for (int t = 16; t > 1; t--) {
            r.commit(t, 0);
        }
        r.commit(1, 16);
        r.settledOrder(1, 2, 3, 4, 5, 6, 7, 8, 9, 10, 11, 12, 13, 14, 15, 16);
    }

    private static void ordersAfterAllEarlierConflicts() {
        Run r = new Run(6, 2);
        r.beginAll(1, 6);
        r.read(1, 0, 0);
        r.read(2, 0, 0);
        r.before(1, 2, 0);
        r.write(3, 1, 5, DONE);
        r.write(4, 0, 7, DONE);
        // Both reads of item 0 are earlier; what 3 did was on another item.
        r.before(1, 4, 1);
        r.before(2, 4, 1);
        r.before(3, 4, 0);
        r.before(4, 3, 0);
        r.read(5, 0, 7);
        r.before(4, 5, 1);
        r.add(6, 1, 1, 6);
        r.before(3, 6, 1);
        r.before(4, 6, 0);
    }

    private static void cycleIsNotDone() {
        Run r = new Run(4, 2);
        r.beginAll(1, 4);
        r.read(1, 0, 0);
        r.read(2, 0, 0);
        r.read(3, 0, 0);
        r.write(4, 0, 5, DONE);
        r.write(4, 1, 6, DONE);
        r.read(1, 1, CYCLE);
        r.write(2, 1, 7, CYCLE);
        r.add(3, 1, 7, CYCLE);
        r.statuses(ABORTED, ABORTED, ABORTED, ACTIVE);
        r.value(1, 6);
        r.opsLeft(MAX_OPS - 5);
    }

    private static void readerCommitsAfter() {
        Run r = new Run(2, 1);
        r.beginAll(1, 2);
        r.write(1, 0, 5, DONE);
        r.read(2, 0, 5);
        r.commit(2, 0);
        r.statuses(ACTIVE, WAITING);
        r.commit(1, 2);
        r.statuses(SETTLED, SETTLED);
        r.settledOrder(1, 2);
    }

    private static void readerAbortsWithIt() {
        Run r = new Run(3, 1);
        r.beginAll(1, 3);
        r.write(1, 0, 5, DONE);
        r.read(2, 0, 5);
        r.read(3, 0, 5);
        r.commit(3, 0);
        r.abort(1, 3);
        r.statuses(ABORTED, ABORTED, ABORTED);
    }

    private static void writesAreTakenBack() {
        Run r = new Run(4, 1);
        r.beginAll(1, 4);
        r.write(1, 0, 1, DONE);
        r.write(2, 0, 2, DONE);
        r.write(3, 0, 3, DONE);
        r.write(4, 0, 4, DONE);
        r.abort(4, 1);
        r.value(0, 3);
        r.abort(2, 1);
        r.value(0, 3);
        r.abort(3, 1);
        r.value(0, 1);
        r.abort(1, 1);
        r.value(0, 0);
    }

    private static void serialOrder() {
        int settled = 0;
        for (int run = 0; run < MIXED_RUNS; run++) {
            SerialReplay replay = new SerialReplay(run);
            replay.runMixed();
            replay.replaySerially();
            settled += replay.settled();
        }
        Check.due("enough was settled to tell", settled > 5 * MIXED_RUNS ? 1 : 0, 1);
    }

    private static void constantsArePublic() {
        int seen = 0;
        for (Field f : GraphScheduler.class.getFields()) {
            boolean constant = Modifier.isStatic(f.getModifiers()) && Modifier.isFinal(f.getModifiers());
            Check.due(f + " is a constant int", constant && f.getType() == int.class ? 1 : 0, 1);
            seen++;
        }
        Check.due("public constants", seen, 19);
    }

    private static void statuses() {
        Check.due("NONE", GraphScheduler.NONE, 0);
        Check.due("ACTIVE", GraphScheduler.ACTIVE, 1);
        Check.due("WAITING", GraphScheduler.WAITING, 2);
        Check.due("COMMITTED", GraphScheduler.COMMITTED, 3);
        Check.due("SETTLED", GraphScheduler.SETTLED, 4);
        Check.due("ABORTED", GraphScheduler.ABORTED, 5);
    }

    private static void answers() {
        Check.due("DONE", GraphScheduler.DONE, 0);
        Check.due("NO_TXN", GraphScheduler.NO_TXN, -1);
        Check.due("NOT_ACTIVE", GraphScheduler.NOT_ACTIVE, -2);
        Check.due("NO_ITEM", GraphScheduler.NO_ITEM, -3);
        Check.due("BAD_VALUE", GraphScheduler.BAD_VALUE, -4);
        Check.due("NO_OPS", GraphScheduler.NO_OPS, -5);
        Check.due("CYCLE", GraphScheduler.CYCLE, -6);
        Check.due("FULL", GraphScheduler.FULL, -7);
        Check.due("NO_MORE", GraphScheduler.NO_MORE, -8);
        Check.due("NOT_OPEN", GraphScheduler.NOT_OPEN, -9);
        Check.due("NOT_WRITTEN", GraphScheduler.NOT_WRITTEN, -10);
    }

    private static void transactionsEverBegun() {
        Check.due("MAX_BEGUN", GraphScheduler.MAX_BEGUN, 64);
        Run r = new Run(2, 1);
        for (int t = 1; t <= 64; t++) {
            r.begin(t);
            r.abort(t, 1);
        }
        r.begin(NO_MORE);
    }

    private static void entriesEverMade() {
        Check.due("MAX_OPS", GraphScheduler.MAX_OPS, 128);
        Run r = new Run(2, 1);
        for (int t = 1; t <= 32; t++) {
            r.begin(t);
            for (int left = 4; left > 0; left--) {
                r.write(t, 0, t, DONE);
            }
            r.abort(t, 1);
        }
        r.begin(33);
        r.write(33, 0, 1, NO_OPS);
        r.read(33, 0, NO_OPS);
    }
}
