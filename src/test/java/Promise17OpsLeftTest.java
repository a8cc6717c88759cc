final class Promise17OpsLeftTest implements Answers {
    public static void main(String[] args) {
        Run r = new Run("ops left", 5, 2);
        r.opsLeft(MAX_OPS);
        r.beginAll(1, 3);
        r.opsLeft(128);
        r.read(1, 0, 0);
        r.opsLeft(127);
        r.write(2, 0, 1, DONE);
        r.opsLeft(126);
        r.add(2, 0, 1, 2);
        r.opsLeft(125);
        r.write(2, 0, 1000, BAD_VALUE);
        r.add(2, 0, -1, BAD_VALUE);
        r.read(2, 2, NO_ITEM);
        r.read(4, 0, NO_TXN);
        r.opsLeft(125);
        r.write(1, 0, 1, CYCLE);
        r.opsLeft(125);
        r.read(1, 0, NOT_ACTIVE);
        r.opsLeft(125);
        r.abort(2, 1);
        r.opsLeft(125);
        r.commit(3, 1);
        r.opsLeft(125);
        r.begin(4);
        r.readUntilLeft(4, 0, 0, 1);
        r.write(4, 0, 9, DONE);
        r.opsLeft(0);
        r.read(4, 0, NO_OPS);
        r.write(4, 0, 1, NO_OPS);
        r.add(4, 0, 1, NO_OPS);
        r.opsLeft(0);
        r.abort(4, 1);
        r.opsLeft(0);
        // The log is full for good, but transactions can still begin and end.
        r.begin(5);
        r.read(5, 0, NO_OPS);
        r.commit(5, 1);
        r.opsLeft(0);
        Check.finish();
    }
}
