/** Long mixed runs on the program and on the model, with every getter compared on the way. */
final class ModelTest implements Answers {
    private static final int RUNS = 300;
    private static final int CALLS = 400;
    private static final int[] ODD = {LOW, -1000, -1, 0, 65, 1000, HIGH};

    private final FixedNumbers numbers;
    private final String name;
    private final int slots;
    private final int items;
    private final GraphScheduler program;
    private final Model model;

    private ModelTest(int run) {
        numbers = new FixedNumbers(run);
        slots = pick(20) - 1;
        // Few items make many conflicts, many items make long paths.
        items = pick(2) == 0 ? 1 + pick(3) : pick(11) - 1;
        name = "run " + run + " (" + slots + ", " + items + "): ";
        program = new GraphScheduler(slots, items);
        model = new Model(slots, items);
    }

    public static void main(String[] args) {
        // After one wrong answer the two states differ, and what follows would tell nothing new.
        for (int run = 0; run < RUNS && Check.allAsDue(); run++) {
            new ModelTest(run).compare();
        }
        Check.finish();
    }

    private void compare() {
        // Some runs end transactions seldom, so that the log fills first; others begin all 64.
        int ending = 1 + pick(12);
        for (int call = 0; call < CALLS && Check.allAsDue(); call++) {
            step(ending);
            if (call % 8 == 0 || call == CALLS - 1) {
                compareGetters();
            }
        }
    }

    private int pick(int bound) {
        return numbers.pick(bound);
    }

    private int anyTxn() {
        if (pick(40) == 0) {
            return ODD[pick(ODD.length)];
        }
        // Mostly late ones, since early ones are soon finished.
        int back = pick(4) == 0 ? pick(64) : pick(8);
        return Math.max(0, model.begun() + (pick(30) == 0 ? 1 : 0) - back);
    }

    private int activeTxn() {
        for (int tries = 0; tries < 12; tries++) {
            int t = anyTxn();
            if (model.status(t) == ACTIVE) {
                return t;
            }
        }
        return anyTxn();
    }

    private int anyItem() {
        return pick(30) == 0 ? ODD[pick(ODD.length)] : pick(Math.max(1, Math.min(8, items)));
    }

    private int anyValue() {
        return pick(20) == 0 ? ODD[pick(ODD.length)] : pick(1000);
    }

    private void step(int ending) {
        int kind = pick(30 + ending);
        int t = activeTxn();
        int x = anyItem();
        int v = anyValue();
        String at = "(" + t + ", " + x;
        if (kind < 8) {
            due("begin()", program.begin(), model.begin());
        } else if (kind < 18) {
            due("read" + at + ")", program.read(t, x), model.read(t, x));
        } else if (kind < 24) {
            due("write" + at + ", " + v + ")", program.write(t, x, v), model.write(t, x, v));
        } else if (kind < 30) {
            due("add" + at + ", " + v + ")", program.add(t, x, v), model.add(t, x, v));
        } else if (pick(4) == 0) {
            int any = anyTxn();
            due("abort(" + any + ")", program.abort(any), model.abort(any));
        } else {
            due("commit(" + t + ")", program.commit(t), model.commit(t));
        }
    }

    private void compareGetters() {
        due("opsLeft()", program.opsLeft(), model.opsLeft());
        for (int n = -1; n <= MAX_BEGUN + 1; n++) {
            due("status(" + n + ")", program.status(n), model.status(n));
            due("settledAt(" + n + ")", program.settledAt(n), model.settledAt(n));
        }
        for (int x = -1; x <= 9; x++) {
            due("value(" + x + ")", program.value(x), model.value(x));
            due("writer(" + x + ")", program.writer(x), model.writer(x));
            due("settledValue(" + x + ")", program.settledValue(x), model.settledValue(x));
        }
        int from = Math.max(-1, model.begun() - 20);
        for (int t = from; t <= model.begun() + 1; t++) {
            comparePerTxn(t, anyTxn());
        }
    }

    private void comparePerTxn(int t, int u) {
        for (int x = -1; x <= 9; x++) {
            due("access(" + t + ", " + x + ")", program.access(t, x), model.access(t, x));
            due("written(" + t + ", " + x + ")", program.written(t, x), model.written(t, x));
        }
        due("before(" + t + ", " + u + ")", program.before(t, u), model.before(t, u));
        due("before(" + u + ", " + t + ")", program.before(u, t), model.before(u, t));
        due("waitsFor(" + t + ", " + u + ")", program.waitsFor(t, u), model.waitsFor(t, u));
        due("waitsFor(" + u + ", " + t + ")", program.waitsFor(u, t), model.waitsFor(u, t));
    }

    private void due(String call, int got, int want) {
        Check.due(name + call, got, want);
    }
}
