final class Promise15WrittenTest implements Answers {
    public static void main(String[] args) {
        Run r = new Run("written", 6, 3);
        r.written(1, 0, NO_TXN);
        r.beginAll(1, 4);
        for (int t : new int[] {LOW, -1, 0, 5, HIGH}) {
            r.written(t, 0, NO_TXN);
            r.written(t, 3, NO_TXN);
        }
        r.abort(3, 1);
        r.commit(4, 1);
        for (int t = 3; t <= 4; t++) {
            r.written(t, 0, NOT_OPEN);
            r.written(t, -1, NOT_OPEN);
        }
        for (int x : new int[] {LOW, -1, 3, 8, HIGH}) {
            r.written(1, x, NO_ITEM);
        }
        r.written(1, 0, NOT_WRITTEN);
        r.read(1, 0, 0);
        r.written(1, 0, NOT_WRITTEN);
        r.write(1, 0, 0, DONE);
        r.written(1, 0, 0);
        r.write(1, 0, 8, DONE);
        r.written(1, 0, 8);
        r.add(1, 0, 5, 13);
        r.written(1, 0, 13);
        r.read(1, 0, 13);
        r.written(1, 0, 13);
        r.written(1, 1, NOT_WRITTEN);
        r.written(2, 0, NOT_WRITTEN);
        r.write(2, 0, 99, DONE);
        // Others have written since; each still has its own.
        r.written(1, 0, 13);
        r.written(2, 0, 99);
        r.commit(2, 1);
        r.status(2, COMMITTED);
        r.written(2, 0, 99);
        r.written(2, 1, NOT_WRITTEN);
        r.commit(1, 1);
        r.written(1, 0, NOT_OPEN);
        r.written(2, 0, NOT_OPEN);
        waiting();
        Check.finish();
    }

    private static void waiting() {
        Run r = new Run("waiting", 3, 2);
        r.beginAll(1, 2);
        r.write(1, 0, 999, DONE);
        r.add(2, 0, 2, 1);
        r.commit(2, 0);
        r.written(2, 0, 1);
        r.written(2, 2, NO_ITEM);
        r.written(1, 0, 999);
    }
}
