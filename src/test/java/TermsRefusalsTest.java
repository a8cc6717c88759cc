final class TermsRefusalsTest implements Answers {
    public static void main(String[] args) {
        Check.part("Terms, Refusals");
        Check.sentence("the first that applies decides the answer", TermsRefusalsTest::firstDecides);
        Check.sentence("Every refused call changes nothing.", TermsRefusalsTest::refusedBegins);
        Check.sentence("Every refused call changes nothing.", TermsRefusalsTest::refusedOperations);
        Check.sentence("Every refused call changes nothing.", TermsRefusalsTest::refusedOperationsOnAFullLog);
        Check.sentence("Every refused call changes nothing.", TermsRefusalsTest::refusedEnds);
        Check.sentence("Every refused call changes nothing.", TermsRefusalsTest::refusedGetters);
        Check.sentence("Every refused call changes nothing.", TermsRefusalsTest::storyWithRefusedCalls);
        Check.sentence("CYCLE is not a refusal in this sense: it aborts a transaction", TermsRefusalsTest::cycleAborts);
        Check.sentence("Getters change nothing.", TermsRefusalsTest::storyWithGetters);
        Check.sentence("No call but those described as doing so changes anything.",
                TermsRefusalsTest::whatBeginChanges);
        Check.sentence("No call but those described as doing so changes anything.", TermsRefusalsTest::whatReadChanges);
        Check.sentence("No call but those described as doing so changes anything.",
                TermsRefusalsTest::whatWriteChanges);
        Check.sentence("No call but those described as doing so changes anything.", TermsRefusalsTest::whatAddChanges);
        Check.sentence("No call but those described as doing so changes anything.",
                TermsRefusalsTest::whatCommitChanges);
        Check.sentence("No call but those described as doing so changes anything.",
                TermsRefusalsTest::whatAbortChanges);
        Check.finish();
    }

    private static void firstDecides() {
        Run r = Scenes.everyStatusAndLogFull();
        // In each row one more of the refusals before it does not apply.
        r.write(7, 3, 1000, NO_TXN);
        r.write(5, 3, 1000, NOT_ACTIVE);
        r.write(6, 3, 1000, NO_ITEM);
        r.write(6, 2, 1000, BAD_VALUE);
        r.write(6, 2, 999, NO_OPS);
        r.access(7, 3, NO_TXN);
        r.access(5, 3, NOT_OPEN);
        r.access(6, 3, NO_ITEM);
        r.before(7, 5, NO_TXN);
        r.before(6, 5, NOT_OPEN);
    }

    private static void refusedBegins() {
        Run r = Scenes.everyStatus();
        r.beginAll(7, 8);
        r.begin(FULL);
        r.begin(FULL);
        r.abort(8, 1);
        r.begin(9);
        r = Scenes.allBegun();
        r.begin(NO_MORE);
        r.begin(NO_MORE);
    }

    private static void refusedOperations() {
        Run r = Scenes.everyStatus();
        for (int t : new int[] {0, 7}) {
            r.read(t, 0, NO_TXN);
            r.write(t, 0, 1, NO_TXN);
            r.add(t, 0, 1, NO_TXN);
        }
        for (int t = 2; t <= 5; t++) {
            r.read(t, 0, NOT_ACTIVE);
            r.write(t, 0, 1, NOT_ACTIVE);
            r.add(t, 0, 1, NOT_ACTIVE);
        }
        for (int x : new int[] {-1, 3}) {
            r.read(1, x, NO_ITEM);
            r.write(1, x, 1, NO_ITEM);
            r.add(1, x, 1, NO_ITEM);
        }
        // With a good value these two would close a cycle and abort 1.
        for (int v : new int[] {-1, 1000}) {
            r.write(1, 0, v, BAD_VALUE);
            r.add(1, 0, v, BAD_VALUE);
        }
    }

    private static void refusedOperationsOnAFullLog() {
        Run r = Scenes.everyStatusAndLogFull();
        for (int t : new int[] {1, 6}) {
            r.read(t, 0, NO_OPS);
            r.write(t, 0, 1, NO_OPS);
            r.add(t, 0, 1, NO_OPS);
        }
        r.statuses(ACTIVE, WAITING, COMMITTED, SETTLED, ABORTED, ACTIVE);
    }

    private static void refusedEnds() {
        Run r = Scenes.everyStatus();
        for (int t : new int[] {0, 7}) {
            r.commit(t, NO_TXN);
            r.abort(t, NO_TXN);
        }
        r.commit(2, NOT_ACTIVE);
        for (int t = 3; t <= 5; t++) {
            r.commit(t, NOT_ACTIVE);
            r.abort(t, NOT_ACTIVE);
        }
    }

    private static void refusedGetters() {
        Run r = Scenes.everyStatus();
        Picture earlier = r.picture();
        r.value(3, NO_ITEM);
        r.writer(-1, NO_ITEM);
        r.settledValue(3, NO_ITEM);
        r.before(1, 7, NO_TXN);
        r.before(4, 1, NOT_OPEN);
        r.waitsFor(7, 1, NO_TXN);
        r.waitsFor(1, 5, NOT_OPEN);
        r.access(0, 0, NO_TXN);
        r.access(4, 0, NOT_OPEN);
        r.access(1, 3, NO_ITEM);
        r.written(7, 0, NO_TXN);
        r.written(5, 0, NOT_OPEN);
        r.written(1, -1, NO_ITEM);
        r.changedSince(earlier);
    }

    private static void storyWithRefusedCalls() {
        Story.isTheSameWith(Story::makeRefusedCalls);
    }

    private static void cycleAborts() {
        Run r = Scenes.everyStatus();
        r.read(1, 0, CYCLE);
        r.status(1, ABORTED);
        r = Scenes.everyStatus();
        r.write(1, 0, 1, CYCLE);
        r.status(1, ABORTED);
        r = Scenes.everyStatus();
        r.add(1, 0, 1, CYCLE);
        r.status(1, ABORTED);
    }

    private static void storyWithGetters() {
        Story.isTheSameWith(Story::callGetters);
    }

    private static void whatBeginChanges() {
        Run r = Scenes.everyStatus();
        Picture earlier = r.picture();
        r.begin(7);
        r.onlyChangedSince(earlier, 7);
    }

    private static void whatReadChanges() {
        Run r = Scenes.everyStatus();
        Picture earlier = r.picture();
        r.read(6, 2, 0);
        r.changedSince(earlier, "opsLeft()", "access(6, 2)");
        earlier = r.picture();
        r.read(6, 0, 33);
        r.changedSince(earlier, "opsLeft()", "access(6, 0)", "before(1, 6)", "before(2, 6)", "before(3, 6)");
    }

    private static void whatWriteChanges() {
        Run r = Scenes.everyStatus();
        Picture earlier = r.picture();
        r.write(6, 2, 9, DONE);
        r.changedSince(earlier, "opsLeft()", "access(6, 2)", "written(6, 2)", "value(2)", "writer(2)");
        earlier = r.picture();
        r.write(6, 2, 8, DONE);
        r.changedSince(earlier, "opsLeft()", "written(6, 2)", "value(2)");
    }

    private static void whatAddChanges() {
        Run r = Scenes.everyStatus();
        Picture earlier = r.picture();
        r.add(6, 2, 9, 9);
        r.changedSince(earlier, "opsLeft()", "access(6, 2)", "written(6, 2)", "value(2)", "writer(2)");
        r.begin(7);
        earlier = r.picture();
        r.add(7, 2, 1, 10);
        r.changedSince(earlier, "opsLeft()", "access(7, 2)", "written(7, 2)", "value(2)", "writer(2)",
                "before(6, 7)", "waitsFor(7, 6)");
    }

    private static void whatCommitChanges() {
        Run r = Scenes.everyStatus();
        r.begin(7);
        r.write(7, 0, 77, DONE);
        r.begin(8);
        r.read(8, 0, 77);
        Picture earlier = r.picture();
        r.commit(8, 0);
        r.changedSince(earlier, "status(8)");
        earlier = r.picture();
        // 7 and 8 are committed but not settled, since 1 is before them.
        r.commit(7, 2);
        r.changedSince(earlier, "status(7)", "status(8)", "waitsFor(8, 7)");
    }

    private static void whatAbortChanges() {
        Run r = Scenes.everyStatus();
        Picture earlier = r.picture();
        r.abort(6, 1);
        r.onlyChangedSince(earlier, 6);
        r.status(6, ABORTED);
    }
}
