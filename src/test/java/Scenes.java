import java.util.Arrays;

/** Beginnings that several tests share, and the wrong arguments that go with them. */
final class Scenes implements Answers {
    static final int SCENE_ITEMS = 3;

    /** No transaction of everyStatus() has such a number. */
    static final int[] NOT_BEGUN = {LOW, -64, -1, 0, 7, 8, 63, 64, 65, 128, HIGH};
    /** Neither everyStatus() nor any other scheduler of three items has such an item. */
    static final int[] BAD_ITEMS = {LOW, -8, -1, 3, 4, 7, 8, HIGH};
    static final int[] BAD_VALUES = {LOW, -1000, -999, -1, 1000, 1001, 1999, HIGH};

    private Scenes() {
    }

    /**
     * 1 is ACTIVE, 2 WAITING, 3 COMMITTED, 4 SETTLED, 5 ABORTED, 6 ACTIVE, and two slots are free. Any
     * operation of 1 on item 0 would close a cycle.
     */
    static Run everyStatus() {
        Run r = new Run(6, SCENE_ITEMS);
        r.beginAll(1, 6);
        r.write(4, 1, 44, DONE);
        r.commit(4, 1);
        r.write(1, 0, 11, DONE);
        r.add(2, 0, 1, 12);
        r.commit(2, 0);
        r.write(3, 0, 33, DONE);
        r.commit(3, 1);
        r.write(5, 2, 55, DONE);
        r.abort(5, 1);
        r.read(6, 1, 44);
        r.statuses(ACTIVE, WAITING, COMMITTED, SETTLED, ABORTED, ACTIVE);
        r.opsLeft(MAX_OPS - 6);
        return r;
    }

    /** everyStatus() with a log of MAX_OPS entries. */
    static Run everyStatusAndLogFull() {
        Run r = everyStatus();
        r.readUntilLeft(6, 1, 44, 0);
        return r;
    }

    static final int[] FAR_APART = {1, 2, 32, 33, 64};

    /** All transactions are begun; those of FAR_APART are ACTIVE, the others ABORTED. */
    static Run farApart() {
        Run r = new Run(6, SCENE_ITEMS);
        for (int t = 1; t <= MAX_BEGUN; t++) {
            r.begin(t);
            if (Arrays.binarySearch(FAR_APART, t) < 0) {
                r.abort(t, 1);
            }
        }
        return r;
    }

    /** Transactions 1 to MAX_BEGUN are begun; all are ABORTED but the last one, which is ACTIVE. */
    static Run allBegun() {
        Run r = new Run(2, SCENE_ITEMS);
        for (int t = 1; t < MAX_BEGUN; t++) {
            r.begin(t);
            r.abort(t, 1);
        }
        r.begin(MAX_BEGUN);
        return r;
    }
}
