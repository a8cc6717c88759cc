final class Promise06CommitTest implements Answers {
    public static void main(String[] args) {
        refusals();
        empty();
        waits();
        waitsForSeveral();
        chainOfWaiters();
        chainAgainstTheNumbers();
        changesNoValues();
        settlesInOrderOfNumbers();
        waitingDoesNotSettle();
        settlesAfterDirectPredecessors();
        Check.finish();
    }

    private static void refusals() {
        Run r = new Run("refusals", 5, 2);
        r.commit(1, NO_TXN);
        r.beginAll(1, 5);
        for (int t : new int[] {LOW, -1, 0, 6, HIGH}) {
            r.commit(t, NO_TXN);
        }
        r.read(5, 1, 0);
        r.write(1, 0, 1, DONE);
        r.read(2, 0, 1);
        r.commit(2, 0);
        r.commit(2, NOT_ACTIVE);
        r.status(2, WAITING);
        r.abort(3, 1);
        r.commit(3, NOT_ACTIVE);
        r.write(4, 1, 1, DONE);
        r.commit(4, 1);
        r.status(4, COMMITTED);
        r.commit(4, NOT_ACTIVE);
        r.commit(5, 1);
        r.status(5, SETTLED);
        r.status(4, SETTLED);
        r.commit(4, NOT_ACTIVE);
        r.commit(5, NOT_ACTIVE);
    }

    private static void empty() {
        Run r = new Run("no entries", 2, 1);
        r.begin(1);
        r.commit(1, 1);
        r.status(1, SETTLED);
        r.settledAt(0, 1);
        r.opsLeft(128);
    }

    private static void waits() {
        Run r = new Run("waits", 3, 2);
        r.beginAll(1, 3);
        r.write(1, 0, 1, DONE);
        r.read(2, 0, 1);
        r.read(3, 0, 1);
        r.commit(2, 0);
        r.status(1, ACTIVE);
        r.status(2, WAITING);
        r.status(3, ACTIVE);
        r.waitsFor(2, 1, 1);
        // The active reader stays active: only waiting ones are committed along.
        r.commit(1, 2);
        r.status(1, SETTLED);
        r.status(2, SETTLED);
        r.status(3, ACTIVE);
        r.commit(3, 1);
    }

    private static void waitsForSeveral() {
        Run r = new Run("waits for two", 3, 2);
        r.beginAll(1, 3);
        r.write(1, 0, 1, DONE);
        r.write(2, 1, 2, DONE);
        r.read(3, 0, 1);
        r.read(3, 1, 2);
        r.commit(3, 0);
        r.commit(2, 1);
        r.status(3, WAITING);
        r.commit(1, 2);
        r.status(3, SETTLED);
        r.settledAt(0, 2);
        r.settledAt(1, 1);
        r.settledAt(2, 3);
    }

    private static void chainOfWaiters() {
        Run r = new Run("chain", 16, 8);
        r.beginAll(1, 9);
        for (int t = 1; t <= 8; t++) {
            r.write(t, t - 1, t, DONE);
            r.read(t + 1, t - 1, t);
        }
        for (int t = 9; t >= 2; t--) {
            r.commit(t, 0);
        }
        r.commit(1, 9);
        for (int t = 1; t <= 9; t++) {
            r.status(t, SETTLED);
            r.settledAt(t - 1, t);
        }
    }

    private static void chainAgainstTheNumbers() {
        Run r = new Run("chain backwards", 16, 8);
        r.beginAll(1, 9);
        for (int t = 9; t >= 2; t--) {
            r.write(t, t - 2, t, DONE);
            r.read(t - 1, t - 2, t);
        }
        for (int t = 1; t <= 8; t++) {
            r.commit(t, 0);
        }
        r.commit(9, 9);
        for (int t = 1; t <= 9; t++) {
            r.status(t, SETTLED);
            r.settledAt(t - 1, 10 - t);
        }
    }

    private static void changesNoValues() {
        Run r = new Run("values", 3, 2);
        r.beginAll(1, 2);
        r.read(2, 0, 0);
        r.write(1, 0, 3, DONE);
        r.write(2, 1, 4, DONE);
        r.commit(1, 1);
        r.status(1, COMMITTED);
        r.value(0, 3);
        r.writer(0, 1);
        r.value(1, 4);
        r.writer(1, 2);
        r.opsLeft(125);
        r.commit(2, 1);
        r.value(0, 3);
        r.value(1, 4);
        r.opsLeft(125);
    }

    private static void settlesInOrderOfNumbers() {
        Run r = new Run("smallest first", 6, 3);
        r.beginAll(1, 5);
        r.read(3, 0, 0);
        r.write(5, 0, 1, DONE);
        r.read(3, 1, 0);
        r.write(2, 1, 2, DONE);
        r.write(2, 2, 2, DONE);
        r.write(1, 2, 3, DONE);
        r.commit(5, 1);
        r.commit(1, 1);
        r.commit(2, 1);
        r.settledAt(0, 0);
        r.commit(3, 1);
        // After 3 both 2 and 5 are free; 2 frees 1, which is smaller than 5.
        r.settledAt(0, 3);
        r.settledAt(1, 2);
        r.settledAt(2, 1);
        r.settledAt(3, 5);
        r.settledAt(4, 0);
        r.status(4, ACTIVE);
    }

    private static void waitingDoesNotSettle() {
        Run r = new Run("becoming waiting", 4, 3);
        r.beginAll(1, 3);
        r.write(1, 0, 1, DONE);
        r.read(2, 0, 1);
        r.read(2, 1, 0);
        r.write(3, 1, 5, DONE);
        r.commit(3, 1);
        r.commit(2, 0);
        r.status(3, COMMITTED);
        r.settledAt(0, 0);
        r.settledValue(1, 0);
        r.commit(1, 2);
        r.settledAt(0, 1);
        r.settledAt(1, 2);
        r.settledAt(2, 3);
    }

    private static void settlesAfterDirectPredecessors() {
        Run r = new Run("predecessor in the middle", 4, 3);
        r.beginAll(1, 3);
        r.read(1, 0, 0);
        r.write(2, 0, 1, DONE);
        r.read(2, 1, 0);
        r.write(3, 1, 2, DONE);
        r.commit(3, 1);
        r.status(3, COMMITTED);
        r.commit(2, 1);
        r.status(2, COMMITTED);
        r.status(3, COMMITTED);
        r.commit(1, 1);
        r.settledAt(0, 1);
        r.settledAt(1, 2);
        r.settledAt(2, 3);
    }
}
