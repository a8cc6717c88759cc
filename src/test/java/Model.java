import java.util.ArrayList;
import java.util.HashSet;
import java.util.List;
import java.util.Set;

/**
 * The document's terms taken word for word and worked out anew from the whole log at every call, with
 * no thought of speed, so that it shares no shortcut with the program.
 */
final class Model implements Answers {
    private record Entry(int txn, int item, boolean reads, boolean writes, int stored) {
    }

    private record Reading(int reader, int source) {
    }

    private final int slots;
    private final int items;
    private final List<Integer> statuses = new ArrayList<>();
    private final List<Entry> log = new ArrayList<>();
    private final Set<Reading> readings = new HashSet<>();
    private final List<Integer> settledOrder = new ArrayList<>();

    Model(int slots, int items) {
        this.slots = Math.max(2, Math.min(16, slots));
        this.items = Math.max(1, Math.min(8, items));
    }

    int begun() {
        return statuses.size();
    }

    int begin() {
        if (begun() == MAX_BEGUN) {
            return NO_MORE;
        }
        int open = 0;
        for (int t = 1; t <= begun(); t++) {
            open += open(t) ? 1 : 0;
        }
        if (open == slots) {
            return FULL;
        }
        statuses.add(ACTIVE);
        return begun();
    }

    int read(int t, int x) {
        if (none(t)) {
            return NO_TXN;
        }
        if (status(t) != ACTIVE) {
            return NOT_ACTIVE;
        }
        if (noItem(x)) {
            return NO_ITEM;
        }
        if (log.size() == MAX_OPS) {
            return NO_OPS;
        }
        int current = current(x);
        return carryOut(new Entry(t, x, true, false, 0)) ? current : CYCLE;
    }

    int write(int t, int x, int v) {
        if (none(t)) {
            return NO_TXN;
        }
        if (status(t) != ACTIVE) {
            return NOT_ACTIVE;
        }
        if (noItem(x)) {
            return NO_ITEM;
        }
        if (v < 0 || v > 999) {
            return BAD_VALUE;
        }
        if (log.size() == MAX_OPS) {
            return NO_OPS;
        }
        return carryOut(new Entry(t, x, false, true, v)) ? DONE : CYCLE;
    }

    int add(int t, int x, int d) {
        if (none(t)) {
            return NO_TXN;
        }
        if (status(t) != ACTIVE) {
            return NOT_ACTIVE;
        }
        if (noItem(x)) {
            return NO_ITEM;
        }
        if (d < 0 || d > 999) {
            return BAD_VALUE;
        }
        if (log.size() == MAX_OPS) {
            return NO_OPS;
        }
        int sum = (current(x) + d) % 1000;
        return carryOut(new Entry(t, x, true, true, sum)) ? sum : CYCLE;
    }

    int commit(int t) {
        if (none(t)) {
            return NO_TXN;
        }
        if (status(t) != ACTIVE) {
            return NOT_ACTIVE;
        }
        if (readFromUnfinished(t)) {
            set(t, WAITING);
            return 0;
        }
        set(t, COMMITTED);
        int count = 1;
        boolean again = true;
        while (again) {
            again = false;
            for (int u = begun(); u >= 1; u--) {
                if (status(u) == WAITING && !readFromUnfinished(u)) {
                    set(u, COMMITTED);
                    count++;
                    again = true;
                }
            }
        }
        settle();
        return count;
    }

    int abort(int t) {
        if (none(t)) {
            return NO_TXN;
        }
        return unfinished(t) ? doAbort(t) : NOT_ACTIVE;
    }

    int status(int t) {
        return none(t) ? NONE : statuses.get(t - 1);
    }

    int value(int x) {
        return noItem(x) ? NO_ITEM : current(x);
    }

    int writer(int x) {
        if (noItem(x)) {
            return NO_ITEM;
        }
        Entry last = lastWrite(x);
        return last != null && open(last.txn) ? last.txn : 0;
    }

    int settledValue(int x) {
        if (noItem(x)) {
            return NO_ITEM;
        }
        int answer = 0;
        for (Entry e : log) {
            if (e.item == x && e.writes && status(e.txn) == SETTLED) {
                answer = e.stored;
            }
        }
        return answer;
    }

    int before(int t, int u) {
        if (none(t) || none(u)) {
            return NO_TXN;
        }
        if (!open(t) || !open(u)) {
            return NOT_OPEN;
        }
        return paths()[t][u] ? 1 : 0;
    }

    int waitsFor(int t, int u) {
        if (none(t) || none(u)) {
            return NO_TXN;
        }
        if (!open(t) || !open(u)) {
            return NOT_OPEN;
        }
        return unfinished(u) && readings.contains(new Reading(t, u)) ? 1 : 0;
    }

    int access(int t, int x) {
        if (none(t)) {
            return NO_TXN;
        }
        if (!open(t)) {
            return NOT_OPEN;
        }
        if (noItem(x)) {
            return NO_ITEM;
        }
        boolean reads = log.stream().anyMatch(e -> e.txn == t && e.item == x && e.reads);
        boolean writes = log.stream().anyMatch(e -> e.txn == t && e.item == x && e.writes);
        return (reads ? 1 : 0) + (writes ? 2 : 0);
    }

    int written(int t, int x) {
        if (none(t)) {
            return NO_TXN;
        }
        if (!open(t)) {
            return NOT_OPEN;
        }
        if (noItem(x)) {
            return NO_ITEM;
        }
        int answer = NOT_WRITTEN;
        for (Entry e : log) {
            if (e.txn == t && e.item == x && e.writes) {
                answer = e.stored;
            }
        }
        return answer;
    }

    int settledAt(int k) {
        return k < 0 || k >= settledOrder.size() ? 0 : settledOrder.get(k);
    }

    int opsLeft() {
        return MAX_OPS - log.size();
    }

    private boolean none(int t) {
        return t < 1 || t > begun();
    }

    private boolean noItem(int x) {
        return x < 0 || x >= items;
    }

    private boolean unfinished(int t) {
        return status(t) == ACTIVE || status(t) == WAITING;
    }

    private boolean open(int t) {
        return unfinished(t) || status(t) == COMMITTED;
    }

    private void set(int t, int status) {
        statuses.set(t - 1, status);
    }

    private boolean standing(Entry e) {
        return status(e.txn) != ABORTED;
    }

    private Entry lastWrite(int x) {
        Entry last = null;
        for (Entry e : log) {
            if (e.item == x && e.writes && standing(e)) {
                last = e;
            }
        }
        return last;
    }

    private int current(int x) {
        Entry last = lastWrite(x);
        return last == null ? 0 : last.stored;
    }

    private boolean readFromUnfinished(int t) {
        return readings.stream().anyMatch(r -> r.reader == t && unfinished(r.source));
    }

    private boolean[][] edges() {
        boolean[][] edge = new boolean[begun() + 1][begun() + 1];
        for (int i = 0; i < log.size(); i++) {
            for (int j = i + 1; j < log.size(); j++) {
                Entry a = log.get(i);
                Entry b = log.get(j);
                if (a.txn != b.txn && a.item == b.item && (a.writes || b.writes) && standing(a) && standing(b)) {
                    edge[a.txn][b.txn] = true;
                }
            }
        }
        return edge;
    }

    private boolean[][] paths() {
        boolean[][] path = edges();
        for (int k = 1; k <= begun(); k++) {
            for (int i = 1; i <= begun(); i++) {
                for (int j = 1; j <= begun(); j++) {
                    path[i][j] |= path[i][k] && path[k][j];
                }
            }
        }
        return path;
    }

    /** Enters the operation and answers true, or aborts its transaction if the graph then had a cycle. */
    private boolean carryOut(Entry e) {
        Entry last = lastWrite(e.item);
        log.add(e);
        boolean[][] path = paths();
        for (int t = 1; t <= begun(); t++) {
            if (path[t][t]) {
                log.remove(log.size() - 1);
                doAbort(e.txn);
                return false;
            }
        }
        if (e.reads && last != null && last.txn != e.txn && unfinished(last.txn)) {
            readings.add(new Reading(e.txn, last.txn));
        }
        return true;
    }

    private int doAbort(int t) {
        Set<Integer> doomed = new HashSet<>();
        doomed.add(t);
        boolean grown = true;
        while (grown) {
            grown = false;
            for (Reading r : readings) {
                if (doomed.contains(r.source) && unfinished(r.reader)) {
                    grown |= doomed.add(r.reader);
                }
            }
        }
        for (int u : doomed) {
            set(u, ABORTED);
        }
        settle();
        return doomed.size();
    }

    private void settle() {
        for (int t = nextSettled(); t != 0; t = nextSettled()) {
            set(t, SETTLED);
            settledOrder.add(t);
        }
    }

    private int nextSettled() {
        boolean[][] edge = edges();
        for (int t = 1; t <= begun(); t++) {
            boolean free = status(t) == COMMITTED;
            for (int u = 1; u <= begun(); u++) {
                free &= !(edge[u][t] && open(u));
            }
            if (free) {
                return t;
            }
        }
        return 0;
    }
}
