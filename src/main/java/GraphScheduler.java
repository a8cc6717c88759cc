/** Schedules interleaved read/write transactions and aborts those that would close a conflict cycle. */
public final class GraphScheduler {
    public static final int NONE = 0;
    public static final int ACTIVE = 1;
    public static final int WAITING = 2;
    public static final int COMMITTED = 3;
    public static final int SETTLED = 4;
    public static final int ABORTED = 5;

    public static final int DONE = 0;
    public static final int NO_TXN = -1;
    public static final int NOT_ACTIVE = -2;
    public static final int NO_ITEM = -3;
    public static final int BAD_VALUE = -4;
    public static final int NO_OPS = -5;
    public static final int CYCLE = -6;
    public static final int FULL = -7;
    public static final int NO_MORE = -8;
    public static final int NOT_OPEN = -9;
    public static final int NOT_WRITTEN = -10;

    public static final int MAX_BEGUN = 64;
    public static final int MAX_OPS = 128;

    private static final int MIN_SLOTS = 2;
    private static final int MAX_SLOTS = 16;
    private static final int MIN_ITEMS = 1;
    private static final int MAX_ITEMS = 8;
    private static final int MAX_VALUE = 999;

    // The kinds are bits so that an add is both and access() is their union.
    private static final int READS = 1;
    private static final int WRITES = 2;
    private static final int ADDS = 3;

    // Transactions count from 1; place 0 of their arrays stays unused.
    private static final int TXN_ROOM = 65;

    private final int slots;
    private final int items;

    private int begun = 0;
    private int logLength = 0;
    private int settledCount = 0;

    private final int[] statusOf = new int[TXN_ROOM];
    // Sets of transactions are longs: see bit().
    private final long[] predecessors = new long[TXN_ROOM];
    private final long[] readFrom = new long[TXN_ROOM];

    private final int[] logTxn = new int[MAX_OPS];
    private final int[] logItem = new int[MAX_OPS];
    private final int[] logKind = new int[MAX_OPS];
    private final int[] logValue = new int[MAX_OPS];

    private final int[] settledOrder = new int[MAX_BEGUN];

    public GraphScheduler(int slots, int items) {
        this.slots = clamp(slots, MIN_SLOTS, MAX_SLOTS);
        this.items = clamp(items, MIN_ITEMS, MAX_ITEMS);
    }

    public int begin() {
        if (begun >= MAX_BEGUN) {
            return NO_MORE;
        }
        if (countOpen() >= slots) {
            return FULL;
        }
        begun++;
        statusOf[begun] = ACTIVE;
        return begun;
    }

    public int read(int t, int x) {
        // A read stores nothing, so it is checked as if with a value that is always good.
        int refusal = operationRefusal(t, x, 0);
        if (refusal != DONE) {
            return refusal;
        }
        long conflicts = conflictsOf(t, x, READS);
        if (closesCycle(t, conflicts)) {
            abortWithReaders(t);
            return CYCLE;
        }
        int current = currentValue(x);
        noteReading(t, x);
        enter(t, x, READS, current, conflicts);
        return current;
    }

    public int write(int t, int x, int v) {
        int refusal = operationRefusal(t, x, v);
        if (refusal != DONE) {
            return refusal;
        }
        long conflicts = conflictsOf(t, x, WRITES);
        if (closesCycle(t, conflicts)) {
            abortWithReaders(t);
            return CYCLE;
        }
        enter(t, x, WRITES, v, conflicts);
        return DONE;
    }

    public int add(int t, int x, int d) {
        int refusal = operationRefusal(t, x, d);
        if (refusal != DONE) {
            return refusal;
        }
        long conflicts = conflictsOf(t, x, ADDS);
        if (closesCycle(t, conflicts)) {
            abortWithReaders(t);
            return CYCLE;
        }
        int stored = (currentValue(x) + d) % (MAX_VALUE + 1);
        noteReading(t, x);
        enter(t, x, ADDS, stored, conflicts);
        return stored;
    }

    public int commit(int t) {
        if (!isBegun(t)) {
            return NO_TXN;
        }
        if (statusOf[t] != ACTIVE) {
            return NOT_ACTIVE;
        }
        if (mustWait(t)) {
            statusOf[t] = WAITING;
            return 0;
        }
        statusOf[t] = COMMITTED;
        int committed = 1 + commitWaiters();
        settle();
        return committed;
    }

    public int abort(int t) {
        if (!isBegun(t)) {
            return NO_TXN;
        }
        if (!isUnfinished(t)) {
            return NOT_ACTIVE;
        }
        return abortWithReaders(t);
    }

    public int status(int t) {
        return isBegun(t) ? statusOf[t] : NONE;
    }

    public int value(int x) {
        return isItem(x) ? currentValue(x) : NO_ITEM;
    }

    public int writer(int x) {
        if (!isItem(x)) {
            return NO_ITEM;
        }
        int last = lastWriter(x);
        return last != 0 && isOpen(last) ? last : 0;
    }

    public int settledValue(int x) {
        if (!isItem(x)) {
            return NO_ITEM;
        }
        for (int i = logLength - 1; i >= 0; i--) {
            if (writesItem(i, x) && statusOf[logTxn[i]] == SETTLED) {
                return logValue[i];
            }
        }
        return 0;
    }

    public int before(int t, int u) {
        int refusal = pairRefusal(t, u);
        if (refusal != DONE) {
            return refusal;
        }
        long earlier = withAncestors(predecessors[u]);
        return contains(earlier, t) ? 1 : 0;
    }

    public int waitsFor(int t, int u) {
        int refusal = pairRefusal(t, u);
        if (refusal != DONE) {
            return refusal;
        }
        return isUnfinished(u) && contains(readFrom[t], u) ? 1 : 0;
    }

    public int access(int t, int x) {
        int refusal = ownItemRefusal(t, x);
        if (refusal != DONE) {
            return refusal;
        }
        int kinds = 0;
        for (int i = 0; i < logLength; i++) {
            if (logTxn[i] == t && logItem[i] == x) {
                kinds |= logKind[i];
            }
        }
        return kinds;
    }

    public int written(int t, int x) {
        int refusal = ownItemRefusal(t, x);
        if (refusal != DONE) {
            return refusal;
        }
        for (int i = logLength - 1; i >= 0; i--) {
            if (logTxn[i] == t && writesItem(i, x)) {
                return logValue[i];
            }
        }
        return NOT_WRITTEN;
    }

    public int settledAt(int k) {
        return k >= 0 && k < settledCount ? settledOrder[k] : 0;
    }

    public int opsLeft() {
        return MAX_OPS - logLength;
    }

    private static int clamp(int n, int least, int greatest) {
        if (n < least) {
            return least;
        }
        return n > greatest ? greatest : n;
    }

    /** The set of t alone; 64 transactions just fill a long. */
    private static long bit(int t) {
        return 1L << (t - 1);
    }

    private static boolean contains(long set, int t) {
        return (set & bit(t)) != 0;
    }

    private boolean isBegun(int t) {
        return t >= 1 && t <= begun;
    }

    private boolean isItem(int x) {
        return x >= 0 && x < items;
    }

    private boolean isUnfinished(int t) {
        return statusOf[t] == ACTIVE || statusOf[t] == WAITING;
    }

    private boolean isOpen(int t) {
        return statusOf[t] == ACTIVE || statusOf[t] == WAITING || statusOf[t] == COMMITTED;
    }

    private long unfinishedSet() {
        long set = 0;
        for (int t = 1; t <= begun; t++) {
            if (isUnfinished(t)) {
                set |= bit(t);
            }
        }
        return set;
    }

    private long openSet() {
        long set = 0;
        for (int t = 1; t <= begun; t++) {
            if (isOpen(t)) {
                set |= bit(t);
            }
        }
        return set;
    }

    private int countOpen() {
        int open = 0;
        for (int t = 1; t <= begun; t++) {
            if (isOpen(t)) {
                open++;
            }
        }
        return open;
    }

    private int operationRefusal(int t, int x, int v) {
        if (!isBegun(t)) {
            return NO_TXN;
        }
        if (statusOf[t] != ACTIVE) {
            return NOT_ACTIVE;
        }
        if (!isItem(x)) {
            return NO_ITEM;
        }
        if (v < 0 || v > MAX_VALUE) {
            return BAD_VALUE;
        }
        return logLength >= MAX_OPS ? NO_OPS : DONE;
    }

    private int pairRefusal(int t, int u) {
        if (!isBegun(t) || !isBegun(u)) {
            return NO_TXN;
        }
        return isOpen(t) && isOpen(u) ? DONE : NOT_OPEN;
    }

    private int ownItemRefusal(int t, int x) {
        if (!isBegun(t)) {
            return NO_TXN;
        }
        if (!isOpen(t)) {
            return NOT_OPEN;
        }
        return isItem(x) ? DONE : NO_ITEM;
    }

    private boolean writesItem(int entry, int x) {
        return logItem[entry] == x && (logKind[entry] & WRITES) != 0;
    }

    private boolean isStanding(int entry) {
        return statusOf[logTxn[entry]] != ABORTED;
    }

    /** The log place of the latest standing write of x, or -1. */
    private int lastWrite(int x) {
        for (int i = logLength - 1; i >= 0; i--) {
            if (writesItem(i, x) && isStanding(i)) {
                return i;
            }
        }
        return -1;
    }

    private int currentValue(int x) {
        int entry = lastWrite(x);
        return entry < 0 ? 0 : logValue[entry];
    }

    private int lastWriter(int x) {
        int entry = lastWrite(x);
        return entry < 0 ? 0 : logTxn[entry];
    }

    /** The others whose standing entries on x would come before an operation of t of this kind. */
    private long conflictsOf(int t, int x, int kind) {
        long conflicts = 0;
        for (int i = 0; i < logLength; i++) {
            boolean oneWrites = ((logKind[i] | kind) & WRITES) != 0;
            if (logTxn[i] != t && logItem[i] == x && oneWrites && isStanding(i)) {
                conflicts |= bit(logTxn[i]);
            }
        }
        return conflicts;
    }

    /** The graph has no cycle yet, so a new one must go through t and one of its new predecessors. */
    private boolean closesCycle(int t, long newPredecessors) {
        long earlier = withAncestors(newPredecessors);
        return contains(earlier, t);
    }

    private long withAncestors(long set) {
        long reached = set;
        // A path meets each transaction once, so this many rounds reach the start of every path.
        for (int round = 0; round < begun; round++) {
            for (int t = 1; t <= begun; t++) {
                if (contains(reached, t)) {
                    reached |= predecessors[t];
                }
            }
        }
        return reached;
    }

    private void noteReading(int t, int x) {
        int source = lastWriter(x);
        if (source != 0 && source != t && isUnfinished(source)) {
            readFrom[t] |= bit(source);
        }
    }

    private void enter(int t, int x, int kind, int stored, long conflicts) {
        logTxn[logLength] = t;
        logItem[logLength] = x;
        logKind[logLength] = kind;
        logValue[logLength] = stored;
        logLength++;
        predecessors[t] |= conflicts;
    }

    private boolean mustWait(int t) {
        return (readFrom[t] & unfinishedSet()) != 0;
    }

    private int commitWaiters() {
        int committed = 0;
        // Each round but the last commits one transaction, so there are never more rounds than these.
        for (int round = 0; round < begun; round++) {
            int ready = firstReadyWaiter();
            if (ready == 0) {
                break;
            }
            statusOf[ready] = COMMITTED;
            committed++;
        }
        return committed;
    }

    private int firstReadyWaiter() {
        for (int t = 1; t <= begun; t++) {
            if (statusOf[t] == WAITING && !mustWait(t)) {
                return t;
            }
        }
        return 0;
    }

    private int abortWithReaders(int t) {
        long doomed = withReaders(t);
        int aborted = 0;
        for (int u = 1; u <= begun; u++) {
            // An abort takes away every edge at the aborted transaction, at both its ends.
            predecessors[u] &= ~doomed;
            if (contains(doomed, u)) {
                predecessors[u] = 0;
                statusOf[u] = ABORTED;
                aborted++;
            }
        }
        settle();
        return aborted;
    }

    private long withReaders(int t) {
        long doomed = bit(t);
        // A chain of readers names each transaction once, so this many rounds reach its end.
        for (int round = 0; round < begun; round++) {
            for (int u = 1; u <= begun; u++) {
                if (isUnfinished(u) && (readFrom[u] & doomed) != 0) {
                    doomed |= bit(u);
                }
            }
        }
        return doomed;
    }

    private void settle() {
        for (int place = settledCount; place < MAX_BEGUN; place++) {
            int ready = firstSettleable();
            if (ready == 0) {
                break;
            }
            statusOf[ready] = SETTLED;
            settledOrder[place] = ready;
            settledCount = place + 1;
        }
    }

    /** Several may be ready at once: the smallest number goes first. */
    private int firstSettleable() {
        long open = openSet();
        for (int t = 1; t <= begun; t++) {
            if (statusOf[t] == COMMITTED && (predecessors[t] & open) == 0) {
                return t;
            }
        }
        return 0;
    }
}
