import java.util.ArrayList;
import java.util.List;
import java.util.function.Consumer;
import java.util.function.ToIntFunction;

/** One long run, told to two schedulers of which one is disturbed between the steps. */
final class Story implements Answers {
    private static final int SLOTS = 4;
    private static final int ITEMS = 2;
    private static final int[] ITEM_ARGUMENTS = {LOW, -1, 0, 1, 2, HIGH};
    private static final int[] VALUE_ARGUMENTS = {LOW, -1, 0, 999, 1000, HIGH};

    private final List<ToIntFunction<GraphScheduler>> steps = new ArrayList<>();

    private Story() {
        begin(4);
        steps.add(s -> s.write(1, 0, 5));
        steps.add(s -> s.read(2, 0));
        steps.add(s -> s.add(3, 0, 7));
        steps.add(s -> s.commit(2));
        steps.add(s -> s.write(4, 1, 9));
        steps.add(s -> s.commit(4));
        begin(1);
        steps.add(s -> s.read(5, 1));
        steps.add(s -> s.write(5, 0, 1));
        steps.add(s -> s.commit(1));
        begin(2);
        steps.add(s -> s.read(6, 0));
        steps.add(s -> s.write(3, 0, 2));
        steps.add(s -> s.add(7, 0, 3));
        steps.add(s -> s.commit(6));
        steps.add(s -> s.commit(7));
        steps.add(s -> s.abort(5));
        begin(3);
        steps.add(s -> s.read(8, 1));
        steps.add(s -> s.add(9, 1, 999));
        steps.add(s -> s.commit(9));
        steps.add(s -> s.write(10, 1, 3));
        steps.add(s -> s.commit(8));
        for (int op = 0; op < MAX_OPS; op++) {
            steps.add(s -> s.read(10, 1));
        }
        begin(1);
        steps.add(s -> s.commit(10));
        steps.add(s -> s.commit(11));
    }

    private void begin(int times) {
        for (int i = 0; i < times; i++) {
            steps.add(GraphScheduler::begin);
        }
    }

    /** Holds that every answer of the story is the same with the disturbance as without it. */
    static void isTheSameWith(Consumer<GraphScheduler> disturbance) {
        GraphScheduler calm = new GraphScheduler(SLOTS, ITEMS);
        GraphScheduler disturbed = new GraphScheduler(SLOTS, ITEMS);
        int place = 0;
        for (ToIntFunction<GraphScheduler> step : new Story().steps) {
            disturbance.accept(disturbed);
            Check.due("step " + place + " of the disturbed story", step.applyAsInt(disturbed), step.applyAsInt(calm));
            place++;
        }
        disturbance.accept(disturbed);
        int changed = new Picture(disturbed).differences(new Picture(calm)).size();
        Check.due("answers changed at the end of the disturbed story", changed, 0);
    }

    /** Makes every call that the document refuses in this state, with arguments of all sorts. */
    static void makeRefusedCalls(GraphScheduler s) {
        int begun = 0;
        int open = 0;
        for (int t = 1; t <= MAX_BEGUN; t++) {
            int status = s.status(t);
            begun += status == NONE ? 0 : 1;
            open += status == ACTIVE || status == WAITING || status == COMMITTED ? 1 : 0;
        }
        if (begun == MAX_BEGUN || open == SLOTS) {
            s.begin();
        }
        for (int t : new int[] {LOW, -1, 0, begun + 1, MAX_BEGUN + 1, HIGH}) {
            makeRefusedCalls(s, t);
        }
        for (int t = 1; t <= begun; t++) {
            makeRefusedCalls(s, t);
        }
    }

    private static void makeRefusedCalls(GraphScheduler s, int t) {
        int status = s.status(t);
        if (status != ACTIVE) {
            s.commit(t);
        }
        if (status != ACTIVE && status != WAITING) {
            s.abort(t);
        }
        for (int x : ITEM_ARGUMENTS) {
            boolean refused = status != ACTIVE || x < 0 || x >= ITEMS || s.opsLeft() == 0;
            if (refused) {
                s.read(t, x);
            }
            for (int v : VALUE_ARGUMENTS) {
                if (refused || v < 0 || v > 999) {
                    s.write(t, x, v);
                    s.add(t, x, v);
                }
            }
        }
    }

    /** Calls every getter, with arguments of all sorts. */
    static void callGetters(GraphScheduler s) {
        new Picture(s);
        int[] wild = {LOW, -65, 99, HIGH};
        for (int n : wild) {
            s.status(n);
            s.value(n);
            s.writer(n);
            s.settledValue(n);
            s.settledAt(n);
            for (int m = -1; m <= 12; m++) {
                s.before(n, m);
                s.before(m, n);
                s.waitsFor(n, m);
                s.waitsFor(m, n);
                s.access(n, m);
                s.access(m, n);
                s.written(n, m);
                s.written(m, n);
            }
        }
    }
}
