final class Promise02BeginTest implements Answers {
    public static void main(String[] args) {
        Check.part("Promise 2: begin");
        Check.sentence("begin(), refusals in order:", Promise02BeginTest::noMoreGoesBeforeFull);
        Check.sentence("begun is MAX_BEGUN: NO_MORE.", Promise02BeginTest::noMore);
        Check.sentence("begun is MAX_BEGUN: NO_MORE.", Promise02BeginTest::noMoreAfterAllHaveEnded);
        Check.sentence("The number of open transactions is slots: FULL.", Promise02BeginTest::full);
        Check.sentence("begun grows by one", Promise02BeginTest::begunGrowsByOne);
        Check.sentence("is ACTIVE with no log entries", Promise02BeginTest::activeWithNoEntries);
        Check.sentence("is ACTIVE with no log entries", Promise02BeginTest::nothingComesFromSettledOnes);
        Check.sentence("is ACTIVE with no log entries", Promise02BeginTest::nothingComesFromAbortedOnes);
        Check.sentence("its number is the answer", Promise02BeginTest::theNumberIsTheAnswer);
        Check.sentence("Nothing else changes; no settling is done.", Promise02BeginTest::nothingElseChanges);
        Check.sentence("WAITING and COMMITTED transactions count as open here", Promise02BeginTest::waitingCounts);
        Check.sentence("WAITING and COMMITTED transactions count as open here", Promise02BeginTest::committedCounts);
        Check.sentence("SETTLED and ABORTED ones do not", Promise02BeginTest::settledDoesNotCount);
        Check.sentence("SETTLED and ABORTED ones do not", Promise02BeginTest::abortedDoesNotCount);
        Check.finish();
    }

    private static void noMoreGoesBeforeFull() {
        Run r = new Run(2, 1);
        for (int t = 1; t <= MAX_BEGUN - 2; t++) {
            r.begin(t);
            r.abort(t, 1);
        }
        r.begin(MAX_BEGUN - 1);
        r.begin(MAX_BEGUN);
        r.begin(NO_MORE);
    }

    private static void noMore() {
        Run r = Scenes.allBegun();
        r.status(MAX_BEGUN, ACTIVE);
        r.begin(NO_MORE);
        r.begin(NO_MORE);
        r.status(MAX_BEGUN + 1, NONE);
        // The last one can do all that others can.
        r.write(MAX_BEGUN, 0, 3, DONE);
        r.writer(0, MAX_BEGUN);
        r.commit(MAX_BEGUN, 1);
        r.settledOrder(MAX_BEGUN);
    }

    private static void noMoreAfterAllHaveEnded() {
        Run r = new Run(16, 1);
        for (int t = 1; t <= MAX_BEGUN; t++) {
            r.begin(t);
            r.commit(t, 1);
        }
        r.begin(NO_MORE);
        r.settledAt(MAX_BEGUN - 1, MAX_BEGUN);
    }

    private static void full() {
        for (int slots = 2; slots <= 16; slots++) {
            Run r = new Run(slots, 1);
            r.beginAll(1, slots);
            r.begin(FULL);
            r.status(slots + 1, NONE);
            r.abort(1, 1);
            r.begin(slots + 1);
            r.begin(FULL);
        }
    }

    private static void begunGrowsByOne() {
        Run r = new Run(3, 1);
        for (int t = 1; t <= 3; t++) {
            r.status(t, NONE);
            r.begin(t);
            r.status(t, ACTIVE);
            r.status(t + 1, NONE);
        }
        r.begin(FULL);
        r.status(4, NONE);
    }

    private static void activeWithNoEntries() {
        Run r = Scenes.everyStatus();
        r.begin(7);
        r.status(7, ACTIVE);
        for (int x = 0; x < Scenes.SCENE_ITEMS; x++) {
            r.access(7, x, 0);
            r.written(7, x, NOT_WRITTEN);
        }
        for (int t : new int[] {1, 2, 3, 6, 7}) {
            r.before(7, t, 0);
            r.before(t, 7, 0);
            r.waitsFor(7, t, 0);
            r.waitsFor(t, 7, 0);
        }
    }

    private static void nothingComesFromSettledOnes() {
        Run r = new Run(2, 2);
        r.beginAll(1, 2);
        r.write(1, 0, 1, DONE);
        r.read(2, 0, 1);
        r.commit(1, 1);
        r.status(1, SETTLED);
        // 3 takes the slot of 1, and nothing else: 2 neither comes after it nor waits for it.
        r.begin(3);
        isFresh(r, 3, 2);
        r.commit(2, 1);
        r.statuses(SETTLED, SETTLED, ACTIVE);
    }

    private static void nothingComesFromAbortedOnes() {
        Run r = new Run(2, 2);
        r.beginAll(1, 2);
        r.write(2, 1, 2, DONE);
        r.read(1, 1, 2);
        r.add(1, 0, 1, 1);
        r.write(2, 0, 2, CYCLE);
        r.statuses(ABORTED, ABORTED);
        r.beginAll(3, 4);
        isFresh(r, 3, 4);
        isFresh(r, 4, 3);
        r.commit(4, 1);
        r.status(4, SETTLED);
        r.commit(3, 1);
    }

    private static void isFresh(Run r, int t, int other) {
        for (int x = 0; x < 2; x++) {
            r.access(t, x, 0);
            r.written(t, x, NOT_WRITTEN);
        }
        r.before(t, other, 0);
        r.before(other, t, 0);
        r.waitsFor(t, other, 0);
        r.waitsFor(other, t, 0);
    }

    private static void theNumberIsTheAnswer() {
        Run r = new Run(2, 1);
        r.begin(1);
        r.abort(1, 1);
        r.begin(2);
        r.commit(2, 1);
        r.begin(3);
        r.begin(4);
        r.read(4, 0, 0);
        r.read(5, 0, NO_TXN);
    }

    private static void nothingElseChanges() {
        Run r = Scenes.everyStatus();
        Picture earlier = r.picture();
        r.begin(7);
        r.onlyChangedSince(earlier, 7);
        r.status(3, COMMITTED);
        r.settledOrder(4);
    }

    private static void waitingCounts() {
        Run r = new Run(2, 1);
        r.beginAll(1, 2);
        r.write(1, 0, 4, DONE);
        r.read(2, 0, 4);
        r.commit(2, 0);
        r.status(2, WAITING);
        r.begin(FULL);
    }

    private static void committedCounts() {
        Run r = new Run(2, 1);
        r.beginAll(1, 2);
        r.read(1, 0, 0);
        r.write(2, 0, 4, DONE);
        r.commit(2, 1);
        r.status(2, COMMITTED);
        r.begin(FULL);
    }

    private static void settledDoesNotCount() {
        Run r = new Run(2, 1);
        r.beginAll(1, 2);
        r.commit(2, 1);
        r.status(2, SETTLED);
        r.begin(3);
        r.begin(FULL);
        // One commit settles two.
        r.read(1, 0, 0);
        r.write(3, 0, 4, DONE);
        r.commit(3, 1);
        r.begin(FULL);
        r.commit(1, 1);
        r.beginAll(4, 5);
        r.begin(FULL);
    }

    private static void abortedDoesNotCount() {
        Run r = new Run(2, 1);
        r.beginAll(1, 2);
        r.abort(1, 1);
        r.begin(3);
        r.begin(FULL);
        // One abort takes a reader along.
        r.write(2, 0, 4, DONE);
        r.read(3, 0, 4);
        r.abort(2, 2);
        r.beginAll(4, 5);
        r.begin(FULL);
    }
}
