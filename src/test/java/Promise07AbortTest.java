final class Promise07AbortTest implements Answers {
    public static void main(String[] args) {
        refusals();
        takesReadersAlong();
        readersInAnyOrder();
        sparesOthers();
        countsNobodyTwice();
        valuesComeBack();
        laterWritersRemain();
        removesEdges();
        settlesButDoesNotCount();
        Check.finish();
    }

    private static void refusals() {
        Run r = new Run("refusals", 5, 2);
        r.abort(1, NO_TXN);
        r.beginAll(1, 4);
        for (int t : new int[] {LOW, -1, 0, 5, HIGH}) {
            r.abort(t, NO_TXN);
        }
        r.abort(1, 1);
        r.abort(1, NOT_ACTIVE);
        r.read(2, 0, 0);
        r.write(3, 0, 1, DONE);
        r.commit(3, 1);
        r.status(3, COMMITTED);
        r.abort(3, NOT_ACTIVE);
        r.status(3, COMMITTED);
        r.commit(4, 1);
        r.status(4, SETTLED);
        r.abort(4, NOT_ACTIVE);
        r.value(0, 1);
    }

    private static void takesReadersAlong() {
        Run r = new Run("readers", 6, 3);
        r.beginAll(1, 5);
        r.write(1, 0, 1, DONE);
        r.read(2, 0, 1);
        r.write(2, 1, 2, DONE);
        r.read(3, 1, 2);
        r.commit(3, 0);
        r.read(4, 0, 1);
        r.write(5, 0, 3, DONE);
        r.abort(1, 4);
        for (int t = 1; t <= 4; t++) {
            r.status(t, ABORTED);
        }
        r.status(5, ACTIVE);
        r.value(0, 3);
        r.value(1, 0);
        r.opsLeft(122);
    }

    private static void readersInAnyOrder() {
        Run r = new Run("readers backwards", 16, 8);
        r.beginAll(1, 9);
        for (int t = 9; t >= 2; t--) {
            r.write(t, t - 2, t, DONE);
            r.read(t - 1, t - 2, t);
        }
        r.commit(4, 0);
        r.abort(9, 9);
        for (int t = 1; t <= 9; t++) {
            r.status(t, ABORTED);
        }
    }

    private static void sparesOthers() {
        Run r = new Run("waiting one alone", 4, 2);
        r.beginAll(1, 4);
        r.write(1, 0, 1, DONE);
        r.add(2, 0, 1, 2);
        r.commit(2, 0);
        r.read(3, 0, 2);
        r.abort(2, 2);
        r.status(1, ACTIVE);
        r.status(2, ABORTED);
        r.status(3, ABORTED);
        r.status(4, ACTIVE);
        r.value(0, 1);
        r.writer(0, 1);
        r.commit(1, 1);
    }

    private static void countsNobodyTwice() {
        Run r = new Run("reader aborted before", 4, 2);
        r.beginAll(1, 3);
        r.write(1, 0, 1, DONE);
        r.read(2, 0, 1);
        r.read(3, 0, 1);
        r.abort(2, 1);
        r.status(1, ACTIVE);
        r.abort(1, 2);
        r.status(3, ABORTED);
    }

    private static void valuesComeBack() {
        Run r = new Run("values come back", 4, 2);
        r.beginAll(1, 4);
        r.write(1, 0, 1, DONE);
        r.write(2, 0, 2, DONE);
        r.write(3, 0, 3, DONE);
        r.write(3, 0, 4, DONE);
        r.abort(3, 1);
        r.value(0, 2);
        r.writer(0, 2);
        r.abort(2, 1);
        r.value(0, 1);
        r.writer(0, 1);
        r.abort(1, 1);
        r.value(0, 0);
        r.writer(0, 0);
        r.opsLeft(124);
    }

    private static void laterWritersRemain() {
        Run r = new Run("later writers remain", 4, 2);
        r.beginAll(1, 3);
        r.write(1, 0, 1, DONE);
        r.write(2, 0, 2, DONE);
        r.write(3, 0, 3, DONE);
        r.abort(2, 1);
        r.value(0, 3);
        r.writer(0, 3);
        r.before(1, 3, 1);
        r.abort(3, 1);
        r.value(0, 1);
        r.writer(0, 1);
    }

    private static void removesEdges() {
        Run r = new Run("edges", 5, 3);
        r.beginAll(1, 3);
        r.read(1, 0, 0);
        r.write(2, 0, 1, DONE);
        r.read(2, 1, 0);
        r.write(3, 1, 2, DONE);
        r.before(1, 3, 1);
        r.abort(2, 1);
        r.before(1, 3, 0);
        // Without 2 nothing orders 1 before 3, so 3 may now come before 1.
        r.write(3, 2, 4, DONE);
        r.read(1, 2, 4);
        r.before(3, 1, 1);
        r.write(1, 0, 5, DONE);
        r.value(0, 5);
    }

    private static void settlesButDoesNotCount() {
        Run r = new Run("settling", 5, 3);
        r.beginAll(1, 5);
        r.read(1, 0, 0);
        r.write(4, 0, 1, DONE);
        r.write(3, 0, 2, DONE);
        r.commit(3, 1);
        r.commit(4, 1);
        r.write(5, 1, 1, DONE);
        r.read(2, 1, 1);
        r.commit(2, 0);
        r.settledAt(0, 0);
        r.abort(1, 1);
        r.status(3, SETTLED);
        r.status(4, SETTLED);
        r.settledAt(0, 4);
        r.settledAt(1, 3);
        // An abort makes nobody committed.
        r.status(2, WAITING);
        r.status(5, ACTIVE);
    }
}
