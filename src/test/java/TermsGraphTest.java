final class TermsGraphTest implements Answers {
    private static final int READ = 1;
    private static final int WRITE = 2;
    private static final int ADD = 3;

    public static void main(String[] args) {
        Check.part("Terms, The graph");
        Check.sentence("its nodes are all begun transactions", TermsGraphTest::committedAndWaitingAreNodes);
        Check.sentence("that are not ABORTED", TermsGraphTest::abortedAreNoNodes);
        Check.sentence("SETTLED ones included", TermsGraphTest::settledOnesComeBefore);
        Check.sentence("when a and b are different", TermsGraphTest::ownEntriesMakeNoEdge);
        Check.sentence("a standing entry of a and a later standing entry of b", TermsGraphTest::laterAndStanding);
        Check.sentence("on the same item", TermsGraphTest::onTheSameItem);
        Check.sentence("at least one of the two writing", TermsGraphTest::oneOfTheTwoWrites);
        Check.sentence("an abort removes all edges at the aborted transaction", TermsGraphTest::abortRemovesEdges);
        Check.sentence("and no others", TermsGraphTest::abortRemovesNoOtherEdges);
        Check.sentence("A path is a sequence of one or more edges.", TermsGraphTest::pathOfOneEdge);
        Check.sentence("A path is a sequence of one or more edges.", TermsGraphTest::pathThroughAllSlots);
        Check.sentence("A path is a sequence of one or more edges.",
                TermsGraphTest::pathThroughAllSlotsAgainstTheNumbers);
        Check.sentence("A path is a sequence of one or more edges.", TermsGraphTest::numbersFarApart);
        Check.sentence("The graph never has a cycle between calls.", TermsGraphTest::neverACycle);
        Check.finish();
    }

    private static void committedAndWaitingAreNodes() {
        Run r = new Run(4, 3);
        r.beginAll(1, 3);
        r.read(1, 0, 0);
        r.write(2, 0, 1, DONE);
        r.read(2, 1, 0);
        r.write(3, 1, 1, DONE);
        r.commit(2, 1);
        r.status(2, COMMITTED);
        r.before(1, 3, 1);
        r.write(3, 2, 1, DONE);
        r.write(1, 2, 1, CYCLE);

        r = new Run(5, 4);
        r.beginAll(1, 4);
        r.write(4, 3, 8, DONE);
        r.read(1, 0, 0);
        r.write(2, 0, 1, DONE);
        r.read(2, 3, 8);
        r.read(2, 1, 0);
        r.write(3, 1, 1, DONE);
        r.commit(2, 0);
        r.status(2, WAITING);
        r.before(1, 3, 1);
        r.write(3, 2, 1, DONE);
        r.read(1, 2, CYCLE);
    }

    private static void abortedAreNoNodes() {
        Run r = new Run(4, 2);
        r.beginAll(1, 3);
        r.read(1, 0, 0);
        r.write(2, 0, 1, DONE);
        r.write(2, 1, 1, DONE);
        r.abort(2, 1);
        // Had 2 stayed in the graph, this would close a cycle.
        r.read(1, 1, 0);
        r.write(1, 0, 5, DONE);
        r.status(1, ACTIVE);
    }

    private static void settledOnesComeBefore() {
        Run r = new Run(4, 2);
        r.beginAll(1, 3);
        r.write(1, 0, 1, DONE);
        r.write(1, 1, 1, DONE);
        r.commit(1, 1);
        r.status(1, SETTLED);
        // All come after the settled 1, which holds none of them up.
        r.write(2, 0, 2, DONE);
        r.write(3, 1, 3, DONE);
        r.before(2, 3, 0);
        r.before(3, 2, 0);
        r.write(2, 1, 4, DONE);
        r.before(3, 2, 1);
        r.write(3, 0, 5, CYCLE);
        r.commit(2, 1);
        r.settledOrder(1, 2);
    }

    private static void ownEntriesMakeNoEdge() {
        Run r = new Run(2, 1);
        r.begin(1);
        for (int first = READ; first <= ADD; first++) {
            for (int second = READ; second <= ADD; second++) {
                operate(r, 1, 0, first);
                operate(r, 1, 0, second);
            }
        }
        r.before(1, 1, 0);
        r.status(1, ACTIVE);
        r.commit(1, 1);
        r.status(1, SETTLED);
    }

    private static void laterAndStanding() {
        Run r = new Run(4, 1);
        r.beginAll(1, 3);
        r.write(2, 0, 1, DONE);
        r.write(1, 0, 1, DONE);
        r.before(2, 1, 1);
        r.before(1, 2, 0);
        r.write(3, 0, 1, DONE);
        r.abort(1, 1);
        r.before(2, 3, 1);
        r.before(3, 2, 0);
        r.abort(2, 1);
        r.before(3, 3, 0);
        r.commit(3, 1);
        r.settledOrder(3);
    }

    private static void onTheSameItem() {
        Run r = new Run(2, 8);
        r.beginAll(1, 2);
        for (int x = 0; x < 8; x++) {
            r.write(1 + x % 2, x, 5, DONE);
        }
        r.before(1, 2, 0);
        r.before(2, 1, 0);
        r.write(1, 7, 5, DONE);
        r.before(2, 1, 1);
    }

    private static void oneOfTheTwoWrites() {
        for (int first = READ; first <= ADD; first++) {
            for (int second = READ; second <= ADD; second++) {
                Run r = new Run(2, 2);
                r.beginAll(1, 2);
                operate(r, 1, 0, first);
                operate(r, 2, 0, second);
                r.before(1, 2, first == READ && second == READ ? 0 : 1);
                r.before(2, 1, 0);
            }
        }
    }

    /** All values here are 0, so that each kind has one answer. */
    private static void operate(Run r, int t, int x, int kind) {
        if (kind == READ) {
            r.read(t, x, 0);
        } else if (kind == WRITE) {
            r.write(t, x, 0, DONE);
        } else {
            r.add(t, x, 0, 0);
        }
    }

    private static void abortRemovesEdges() {
        Run r = new Run(5, 3);
        r.beginAll(1, 3);
        r.read(1, 0, 0);
        r.write(2, 0, 1, DONE);
        r.read(2, 1, 0);
        r.write(3, 1, 2, DONE);
        r.before(1, 3, 1);
        r.abort(2, 1);
        r.before(1, 3, 0);
        // Without 2 nothing orders 1 before 3, so 3 may now come before 1.
        r.write(3, 2, 4, DONE);
        r.read(1, 2, 4);
        r.before(3, 1, 1);
        r.write(1, 0, 5, DONE);
        r.value(0, 5);
    }

    private static void abortRemovesNoOtherEdges() {
        Run r = new Run(5, 2);
        r.beginAll(1, 5);
        r.write(1, 0, 1, DONE);
        r.write(2, 0, 2, DONE);
        r.write(3, 0, 3, DONE);
        r.read(4, 1, 0);
        r.write(5, 1, 5, DONE);
        r.abort(2, 1);
        r.before(1, 3, 1);
        r.before(3, 1, 0);
        r.before(4, 5, 1);
        r.before(5, 4, 0);
        r.write(1, 0, 4, CYCLE);
    }

    private static void pathOfOneEdge() {
        Run r = new Run(3, 1);
        r.beginAll(1, 3);
        r.before(1, 2, 0);
        r.read(1, 0, 0);
        r.write(2, 0, 1, DONE);
        r.before(1, 2, 1);
        // No edge is no path, not even from a transaction to itself.
        r.before(1, 1, 0);
        r.before(1, 3, 0);
    }

    private static void pathThroughAllSlots() {
        Run r = new Run(16, 8);
        r.beginAll(1, 16);
        for (int t = 1; t <= 15; t += 2) {
            link(r, t, t + 1, t + 2, t / 2);
        }
        for (int t = 1; t <= 16; t++) {
            for (int u = 1; u <= 16; u++) {
                r.before(t, u, t < u ? 1 : 0);
            }
        }
        // The cycle needs all the sixteen.
        r.read(1, 7, CYCLE);
        r.status(1, ABORTED);
    }

    private static void pathThroughAllSlotsAgainstTheNumbers() {
        Run r = new Run(16, 8);
        r.beginAll(1, 16);
        for (int t = 16; t >= 2; t -= 2) {
            link(r, t, t - 1, t - 2, t / 2 - 1);
        }
        for (int t = 1; t <= 16; t++) {
            for (int u = 1; u <= 16; u++) {
                r.before(t, u, t > u ? 1 : 0);
            }
        }
        r.read(16, 0, CYCLE);
        r.status(16, ABORTED);
    }

    /** Edges from a to b and from b to c, if there is such a c, but none from a to c. */
    private static void link(Run r, int a, int b, int c, int x) {
        r.read(a, x, 0);
        r.write(b, x, 1, DONE);
        if (c >= 1 && c <= 16) {
            r.read(c, x, 1);
        }
    }

    private static void numbersFarApart() {
        Run r = Scenes.farApart();
        r.read(33, 0, 0);
        r.write(64, 0, 5, DONE);
        r.write(64, 1, 6, DONE);
        r.write(1, 1, 7, DONE);
        for (int t : Scenes.FAR_APART) {
            for (int u : Scenes.FAR_APART) {
                boolean path = t == 33 && u == 64 || t == 64 && u == 1 || t == 33 && u == 1;
                r.before(t, u, path ? 1 : 0);
            }
        }
        r.write(32, 1, 8, DONE);
        r.before(33, 32, 1);
        r.before(2, 32, 0);
        r.write(33, 1, 9, CYCLE);
        r.statuses(ACTIVE, ACTIVE);
        r.status(32, ACTIVE);
        r.status(64, ACTIVE);
    }

    private static void neverACycle() {
        Run r = new Run(5, 2);
        r.beginAll(1, 5);
        for (int round = 0; round < 20; round++) {
            // Whether each of these is done or answered with CYCLE, no cycle may be left behind.
            int t = 1 + round * 3 % 5;
            if (r.scheduler().status(t) == ACTIVE) {
                r.scheduler().add(t, round % 2, 1);
            }
            for (int a = 1; a <= 5; a++) {
                noPathBothWays(r.scheduler(), a);
            }
        }
    }

    private static void noPathBothWays(GraphScheduler s, int a) {
        for (int b = 1; b <= 5; b++) {
            boolean bothWays = s.before(a, b) == 1 && s.before(b, a) == 1;
            Check.due("a path from " + a + " to " + b + " and back", bothWays ? 1 : 0, 0);
        }
    }
}
