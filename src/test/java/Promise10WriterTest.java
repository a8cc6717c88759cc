final class Promise10WriterTest implements Answers {
    public static void main(String[] args) {
        Run r = new Run("writers", 5, 2);
        for (int x : new int[] {LOW, -1, 2, 8, HIGH}) {
            r.writer(x, NO_ITEM);
        }
        r.beginAll(1, 4);
        r.writer(0, 0);
        r.read(1, 0, 0);
        r.writer(0, 0);
        r.write(2, 0, 1, DONE);
        r.writer(0, 2);
        r.writer(1, 0);
        r.add(3, 0, 1, 2);
        r.writer(0, 3);
        r.commit(3, 0);
        r.writer(0, 3);
        r.commit(2, 2);
        // Both are committed, but the active 1 comes before them.
        r.status(3, COMMITTED);
        r.writer(0, 3);
        r.write(4, 0, 9, DONE);
        r.writer(0, 4);
        r.abort(4, 1);
        r.writer(0, 3);
        r.commit(1, 1);
        r.status(3, SETTLED);
        r.writer(0, 0);
        r.value(0, 2);
        r.begin(5);
        r.write(5, 0, 7, DONE);
        r.writer(0, 5);
        r.abort(5, 1);
        r.writer(0, 0);
        Check.finish();
    }
}
