final class Promise14AccessTest implements Answers {
    public static void main(String[] args) {
        Run r = new Run("access", 6, 4);
        r.access(1, 0, NO_TXN);
        r.beginAll(1, 4);
        for (int t : new int[] {LOW, -1, 0, 5, HIGH}) {
            r.access(t, 0, NO_TXN);
            r.access(t, 4, NO_TXN);
        }
        r.abort(3, 1);
        r.commit(4, 1);
        for (int t = 3; t <= 4; t++) {
            r.access(t, 0, NOT_OPEN);
            r.access(t, -1, NOT_OPEN);
        }
        for (int x : new int[] {LOW, -1, 4, 8, HIGH}) {
            r.access(1, x, NO_ITEM);
        }
        r.read(1, 0, 0);
        r.write(1, 1, 1, DONE);
        r.add(1, 2, 1, 1);
        r.access(1, 0, 1);
        r.access(1, 1, 2);
        r.access(1, 2, 3);
        r.access(1, 3, 0);
        r.read(1, 1, 1);
        r.access(1, 1, 3);
        r.write(1, 0, 5, DONE);
        r.access(1, 0, 3);
        r.read(1, 0, 5);
        r.access(1, 0, 3);
        r.access(2, 0, 0);
        r.write(2, 0, 6, DONE);
        r.access(2, 0, 2);
        r.read(2, 1, 1);
        r.access(2, 1, 1);
        r.commit(2, 0);
        r.access(2, 0, 2);
        r.commit(1, 2);
        r.access(1, 0, NOT_OPEN);
        r.access(2, 0, NOT_OPEN);
        committed();
        logFull();
        Check.finish();
    }

    private static void committed() {
        Run r = new Run("committed", 3, 2);
        r.beginAll(1, 2);
        r.read(1, 0, 0);
        r.add(2, 0, 1, 1);
        r.commit(2, 1);
        r.status(2, COMMITTED);
        r.access(2, 0, 3);
        r.access(2, 1, 0);
        r.access(2, 2, NO_ITEM);
    }

    private static void logFull() {
        Run r = new Run("log full", 2, 2);
        r.begin(1);
        r.readUntilLeft(1, 0, 0, 1);
        r.access(1, 1, 0);
        r.write(1, 1, 3, DONE);
        r.access(1, 0, 1);
        r.access(1, 1, 2);
    }
}
