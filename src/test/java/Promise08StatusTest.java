final class Promise08StatusTest implements Answers {
    public static void main(String[] args) {
        Run r = new Run("every status", 6, 2);
        r.status(1, NONE);
        r.beginAll(1, 5);
        for (int t : new int[] {LOW, -1, 0, 6, 64, 65, HIGH}) {
            r.status(t, NONE);
        }
        r.status(1, ACTIVE);
        r.write(1, 0, 1, DONE);
        r.read(2, 0, 1);
        r.commit(2, 0);
        r.status(2, WAITING);
        r.write(3, 0, 2, DONE);
        r.commit(3, 1);
        r.status(3, COMMITTED);
        r.commit(4, 1);
        r.status(4, SETTLED);
        r.abort(5, 1);
        r.status(5, ABORTED);
        r.status(1, ACTIVE);
        r.status(6, NONE);
        r.begin(6);
        r.status(6, ACTIVE);
        // Settled and aborted are never left again.
        r.commit(1, 2);
        r.status(1, SETTLED);
        r.status(2, SETTLED);
        r.status(3, SETTLED);
        r.status(4, SETTLED);
        r.status(5, ABORTED);
        Check.finish();
    }
}
