import java.util.ArrayList;
import java.util.List;

/**
 * A mixed run whose settled transactions are then done again on a new scheduler, one after another in
 * their settled order. If that order is serial, each operation answers as it did in the mixed run. This
 * leans on no reading of the graph, the waiting or the aborting, so it can see a misreading of them.
 */
final class SerialReplay implements Answers {
    private static final int CALLS = 400;
    private static final int ITEMS = 3;
    private static final int READ = 0;
    private static final int WRITE = 1;
    private static final int ADD = 2;

    private record Operation(int txn, int kind, int item, int argument, int answer) {
    }

    private final String name;
    private final FixedNumbers numbers;
    private final GraphScheduler mixed;
    private final List<Operation> carriedOut = new ArrayList<>();
    private final List<Integer> order = new ArrayList<>();
    private int begun = 0;

    SerialReplay(int run) {
        name = "mixed run " + run + ": ";
        numbers = new FixedNumbers(run);
        mixed = new GraphScheduler(2 + numbers.pick(15), ITEMS);
    }

    void runMixed() {
        for (int call = 0; call < CALLS; call++) {
            step();
            holdThatOrderOnlyGrew();
        }
        for (int t = 1; t <= begun; t++) {
            mixed.commit(t);
        }
        holdThatOrderOnlyGrew();
        // With nobody left to wait for, only a cycle could keep one from being settled.
        for (int t = 1; t <= begun; t++) {
            int due = mixed.status(t) == ABORTED ? ABORTED : SETTLED;
            Check.due(name + "at the end, status(" + t + ")", mixed.status(t), due);
        }
    }

    private void step() {
        int choice = numbers.pick(20);
        int t = Math.max(1, begun - numbers.pick(10));
        if (choice < 4) {
            begun = Math.max(begun, mixed.begin());
        } else if (choice < 16) {
            operate(t, choice % 3);
        } else if (choice < 19) {
            mixed.commit(t);
        } else {
            mixed.abort(t);
        }
    }

    private void operate(int t, int kind) {
        int item = numbers.pick(ITEMS);
        int argument = numbers.pick(1000);
        int answer = call(mixed, t, kind, item, argument);
        if (answer >= 0) {
            carriedOut.add(new Operation(t, kind, item, argument, answer));
        }
    }

    private static int call(GraphScheduler s, int t, int kind, int item, int argument) {
        if (kind == READ) {
            return s.read(t, item);
        }
        return kind == WRITE ? s.write(t, item, argument) : s.add(t, item, argument);
    }

    private void holdThatOrderOnlyGrew() {
        for (int k = 0; k < order.size(); k++) {
            Check.due(name + "settledAt(" + k + ")", mixed.settledAt(k), order.get(k));
        }
        while (mixed.settledAt(order.size()) > 0 && order.size() < MAX_BEGUN) {
            order.add(mixed.settledAt(order.size()));
        }
    }

    void replaySerially() {
        GraphScheduler serial = new GraphScheduler(2, ITEMS);
        for (int t : order) {
            int again = serial.begin();
            for (Operation o : carriedOut) {
                if (o.txn() == t) {
                    int answer = call(serial, again, o.kind(), o.item(), o.argument());
                    Check.due(name + "done serially, " + o, answer, o.answer());
                }
            }
            Check.due(name + "done serially, commit of " + t, serial.commit(again), 1);
        }
        for (int x = 0; x < ITEMS; x++) {
            Check.due(name + "settledValue(" + x + ")", mixed.settledValue(x), serial.value(x));
        }
    }

    int settled() {
        return order.size();
    }
}
