final class Promise11SettledValueTest implements Answers {
    public static void main(String[] args) {
        ordinary();
        latestByTheLog();
        addsCount();
        firstLogEntry();
        Check.finish();
    }

    private static void ordinary() {
        Run r = new Run("settled values", 4, 2);
        for (int x : new int[] {LOW, -1, 2, 8, HIGH}) {
            r.settledValue(x, NO_ITEM);
        }
        r.settledValue(0, 0);
        r.beginAll(1, 3);
        r.write(1, 0, 5, DONE);
        r.settledValue(0, 0);
        r.write(2, 0, 6, DONE);
        r.commit(2, 1);
        r.status(2, COMMITTED);
        r.settledValue(0, 0);
        r.write(3, 0, 7, DONE);
        r.commit(1, 1);
        r.status(2, SETTLED);
        r.settledValue(0, 6);
        r.value(0, 7);
        r.settledValue(1, 0);
        r.abort(3, 1);
        r.settledValue(0, 6);
        r.value(0, 6);
    }

    private static void latestByTheLog() {
        Run r = new Run("several writes of one", 4, 2);
        r.beginAll(1, 3);
        r.write(1, 0, 1, DONE);
        r.write(1, 0, 2, DONE);
        r.commit(1, 1);
        r.settledValue(0, 2);
        r.write(2, 0, 0, DONE);
        r.commit(2, 1);
        r.settledValue(0, 0);
        r.read(3, 0, 0);
        r.commit(3, 1);
        r.settledValue(0, 0);
    }

    private static void addsCount() {
        Run r = new Run("adds and reads", 4, 2);
        r.beginAll(1, 2);
        r.write(1, 0, 4, DONE);
        r.add(1, 0, 3, 7);
        r.commit(1, 1);
        r.settledValue(0, 7);
        r.add(2, 0, 3, 10);
        r.settledValue(0, 7);
        r.commit(2, 1);
        r.settledValue(0, 10);
    }

    private static void firstLogEntry() {
        Run r = new Run("first entry of the log", 2, 1);
        r.begin(1);
        r.write(1, 0, 5, DONE);
        r.commit(1, 1);
        r.settledValue(0, 5);
    }
}
