final class Promise12BeforeTest implements Answers {
    public static void main(String[] args) {
        refusals();
        kindsOfConflict();
        paths();
        longPathAgainstTheNumbers();
        notByNumbersOrReadingFrom();
        Check.finish();
    }

    private static void refusals() {
        Run r = new Run("refusals", 6, 2);
        r.before(1, 1, NO_TXN);
        r.beginAll(1, 5);
        for (int t : new int[] {LOW, -1, 0, 6, HIGH}) {
            r.before(t, 1, NO_TXN);
            r.before(1, t, NO_TXN);
            r.before(t, t, NO_TXN);
        }
        r.abort(4, 1);
        r.commit(5, 1);
        r.status(5, SETTLED);
        for (int t = 4; t <= 5; t++) {
            r.before(t, 1, NOT_OPEN);
            r.before(1, t, NOT_OPEN);
            r.before(t, t, NOT_OPEN);
            r.before(t, 6, NO_TXN);
            r.before(0, t, NO_TXN);
        }
        r.write(1, 0, 1, DONE);
        r.read(2, 0, 1);
        r.commit(2, 0);
        r.before(1, 2, 1);
        r.write(3, 0, 2, DONE);
        r.commit(3, 1);
        r.status(3, COMMITTED);
        r.before(2, 3, 1);
        r.before(1, 3, 1);
        r.before(3, 3, 0);
        r.before(1, 1, 0);
    }

    private static void kindsOfConflict() {
        for (int first = 1; first <= 3; first++) {
            for (int second = 1; second <= 3; second++) {
                Run r = new Run("kind " + first + " then " + second, 2, 2);
                r.beginAll(1, 2);
                operate(r, 1, 0, first);
                operate(r, 2, 0, second);
                r.before(1, 2, first == 1 && second == 1 ? 0 : 1);
                r.before(2, 1, 0);
            }
        }
        Run r = new Run("other items", 2, 2);
        r.beginAll(1, 2);
        operate(r, 1, 0, 2);
        operate(r, 2, 1, 2);
        r.before(1, 2, 0);
        r.before(2, 1, 0);
    }

    /** All values here are 0, so that each kind has one answer. */
    private static void operate(Run r, int t, int x, int kind) {
        if (kind == 1) {
            r.read(t, x, 0);
        } else if (kind == 2) {
            r.write(t, x, 0, DONE);
        } else {
            r.add(t, x, 0, 0);
        }
    }

    private static void paths() {
        Run r = new Run("paths", 5, 3);
        r.beginAll(1, 4);
        r.write(3, 0, 1, DONE);
        r.write(1, 0, 2, DONE);
        r.write(1, 1, 3, DONE);
        r.write(2, 1, 4, DONE);
        r.write(4, 2, 5, DONE);
        r.before(3, 1, 1);
        r.before(1, 2, 1);
        r.before(3, 2, 1);
        r.before(2, 3, 0);
        r.before(2, 1, 0);
        r.before(4, 1, 0);
        r.before(3, 4, 0);
        // 1 was the only way from 3 to 2.
        r.abort(1, 1);
        r.before(3, 2, 0);
        r.before(3, 1, NOT_OPEN);
    }

    private static void longPathAgainstTheNumbers() {
        Run r = new Run("long path", 16, 8);
        r.beginAll(1, 9);
        for (int t = 9; t >= 2; t--) {
            r.read(t, t - 2, 0);
            r.write(t - 1, t - 2, 1, DONE);
        }
        for (int t = 1; t <= 9; t++) {
            for (int u = 1; u <= 9; u++) {
                r.before(t, u, t > u ? 1 : 0);
            }
        }
    }

    private static void notByNumbersOrReadingFrom() {
        Run r = new Run("settled writer", 4, 2);
        r.beginAll(1, 3);
        r.write(1, 0, 1, DONE);
        r.commit(1, 1);
        r.read(2, 0, 1);
        r.read(3, 0, 1);
        // Both come after the settled 1, but that orders neither against the other.
        r.before(2, 3, 0);
        r.before(3, 2, 0);
    }
}
