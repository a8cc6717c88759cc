final class Promise09ValueTest implements Answers {
    public static void main(String[] args) {
        Run r = new Run("values", 5, 3);
        for (int x : new int[] {LOW, -1, 3, 8, HIGH}) {
            r.value(x, NO_ITEM);
        }
        for (int x = 0; x < 3; x++) {
            r.value(x, 0);
        }
        r.beginAll(1, 3);
        r.write(1, 2, 999, DONE);
        r.value(2, 999);
        r.value(1, 0);
        r.read(2, 2, 999);
        r.value(2, 999);
        r.add(2, 2, 2, 1);
        r.value(2, 1);
        r.write(3, 2, 50, DONE);
        r.value(2, 50);
        r.abort(1, 2);
        r.value(2, 50);
        r.commit(3, 1);
        r.value(2, 50);
        r.begin(4);
        r.write(4, 2, 60, DONE);
        r.value(2, 60);
        r.abort(4, 1);
        // The settled value stands again.
        r.value(2, 50);
        r.value(0, 0);
        r.opsLeft(123);
        Check.finish();
    }
}
