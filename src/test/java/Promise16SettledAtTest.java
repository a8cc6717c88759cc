final class Promise16SettledAtTest implements Answers {
    public static void main(String[] args) {
        Run r = new Run("places", 6, 3);
        for (int k : new int[] {LOW, -1, 0, 1, 63, 64, HIGH}) {
            r.settledAt(k, 0);
        }
        r.beginAll(1, 5);
        r.commit(3, 1);
        r.settledAt(0, 3);
        r.settledAt(1, 0);
        r.read(1, 0, 0);
        r.write(2, 0, 1, DONE);
        r.commit(2, 1);
        r.settledAt(1, 0);
        r.commit(5, 1);
        r.settledAt(1, 5);
        r.abort(4, 1);
        r.settledAt(2, 0);
        r.commit(1, 1);
        // Places once filled keep their transactions.
        r.settledAt(0, 3);
        r.settledAt(1, 5);
        r.settledAt(2, 1);
        r.settledAt(3, 2);
        for (int k : new int[] {LOW, -1, 4, 63, 64, HIGH}) {
            r.settledAt(k, 0);
        }
        allPlaces();
        Check.finish();
    }

    private static void allPlaces() {
        Run r = new Run("64 places", 16, 1);
        for (int first = 1; first <= MAX_BEGUN; first += 16) {
            r.beginAll(first, first + 15);
            for (int t = first + 15; t >= first; t--) {
                r.commit(t, 1);
            }
        }
        for (int k = 0; k < MAX_BEGUN; k++) {
            r.settledAt(k, k / 16 * 16 + 16 - k % 16);
        }
        r.settledAt(-1, 0);
        r.settledAt(MAX_BEGUN, 0);
    }
}
