final class TermsSettlingTest implements Answers {
    public static void main(String[] args) {
        Check.part("Terms, Settling");
        Check.sentence("as long as there is a COMMITTED transaction", TermsSettlingTest::onlyCommittedOnes);
        Check.sentence("none of whose direct predecessors in the graph is open", TermsSettlingTest::heldUpByActive);
        Check.sentence("none of whose direct predecessors in the graph is open", TermsSettlingTest::heldUpByWaiting);
        Check.sentence("none of whose direct predecessors in the graph is open", TermsSettlingTest::heldUpByCommitted);
        Check.sentence("none of whose direct predecessors in the graph is open",
                TermsSettlingTest::heldUpByOneOfSeveral);
        Check.sentence("none of whose direct predecessors in the graph is open", TermsSettlingTest::notHeldUpByOthers);
        Check.sentence("the one of these with the smallest number becomes SETTLED", TermsSettlingTest::smallestFirst);
        Check.sentence("the one of these with the smallest number becomes SETTLED", TermsSettlingTest::numbersFarApart);
        Check.sentence("is put at the end of the settled order", TermsSettlingTest::atTheEnd);
        Check.sentence("then look again", TermsSettlingTest::lookAgain);
        Check.sentence("Settling is done only where stated.", TermsSettlingTest::notByOtherCalls);
        Check.finish();
    }

    private static void onlyCommittedOnes() {
        Run r = new Run(5, 2);
        r.beginAll(1, 4);
        r.write(1, 0, 1, DONE);
        r.read(2, 0, 1);
        r.commit(2, 0);
        r.commit(4, 1);
        // 1 and 3 have no predecessors at all, but are not committed.
        r.statuses(ACTIVE, WAITING, ACTIVE, SETTLED);
        r.settledOrder(4);
    }

    private static void heldUpByActive() {
        Run r = new Run(3, 1);
        r.beginAll(1, 2);
        r.read(1, 0, 0);
        r.write(2, 0, 1, DONE);
        r.commit(2, 1);
        r.statuses(ACTIVE, COMMITTED);
        r.commit(1, 1);
        r.settledOrder(1, 2);
    }

    private static void heldUpByWaiting() {
        Run r = new Run(4, 2);
        r.beginAll(1, 3);
        r.write(1, 0, 1, DONE);
        r.read(2, 0, 1);
        r.read(2, 1, 0);
        r.commit(2, 0);
        r.write(3, 1, 3, DONE);
        r.commit(3, 1);
        r.statuses(ACTIVE, WAITING, COMMITTED);
        r.settledOrder();
        r.commit(1, 2);
        r.settledOrder(1, 2, 3);
    }

    private static void heldUpByCommitted() {
        Run r = new Run(4, 2);
        r.beginAll(1, 3);
        r.read(1, 0, 0);
        r.write(2, 0, 1, DONE);
        r.read(2, 1, 0);
        r.write(3, 1, 2, DONE);
        r.commit(2, 1);
        r.commit(3, 1);
        // Nothing of 3 meets anything of 1: it is the committed 2 that holds 3 up.
        r.statuses(ACTIVE, COMMITTED, COMMITTED);
        r.commit(1, 1);
        r.settledOrder(1, 2, 3);
    }

    private static void heldUpByOneOfSeveral() {
        Run r = new Run(5, 1);
        r.beginAll(1, 4);
        r.read(1, 0, 0);
        r.read(2, 0, 0);
        r.read(4, 0, 0);
        r.write(3, 0, 3, DONE);
        r.commit(3, 1);
        r.commit(1, 1);
        r.status(3, COMMITTED);
        r.abort(4, 1);
        r.status(3, COMMITTED);
        r.commit(2, 1);
        r.status(3, SETTLED);
        r.settledOrder(1, 2, 3);
    }

    private static void notHeldUpByOthers() {
        Run r = new Run(6, 2);
        r.beginAll(1, 5);
        r.write(1, 0, 1, DONE);
        r.commit(1, 1);
        r.write(2, 0, 2, DONE);
        r.abort(2, 1);
        r.write(3, 0, 3, DONE);
        // 4 only comes after 3, and 5 has nothing to do with it.
        r.write(4, 0, 4, DONE);
        r.write(5, 1, 5, DONE);
        r.commit(3, 1);
        r.statuses(SETTLED, ABORTED, SETTLED, ACTIVE, ACTIVE);
        r.settledOrder(1, 3);
    }

    private static void smallestFirst() {
        Run r = new Run(6, 1);
        r.beginAll(1, 5);
        r.write(3, 0, 1, DONE);
        r.read(5, 0, 1);
        r.read(2, 0, 1);
        r.read(4, 0, 1);
        r.read(1, 0, 1);
        r.commit(5, 0);
        r.commit(4, 0);
        r.commit(2, 0);
        r.commit(1, 0);
        r.commit(3, 5);
        // 3 must be first; the others are all free after it, whatever the order of their commits.
        r.settledOrder(3, 1, 2, 4, 5);
    }

    private static void numbersFarApart() {
        Run r = Scenes.farApart();
        r.read(33, 0, 0);
        r.write(64, 0, 6, DONE);
        r.read(33, 1, 0);
        r.write(1, 1, 7, DONE);
        r.write(32, 0, 8, DONE);
        r.commit(32, 1);
        r.commit(64, 1);
        r.commit(1, 1);
        r.commit(2, 1);
        r.settledOrder(2);
        r.commit(33, 1);
        // 1 and 64 are free after 33, and 32 after 64.
        r.settledOrder(2, 33, 1, 64, 32);
    }

    private static void atTheEnd() {
        Run r = new Run(4, 1);
        r.beginAll(1, 4);
        r.commit(3, 1);
        r.settledOrder(3);
        r.commit(1, 1);
        r.settledOrder(3, 1);
        r.commit(4, 1);
        r.settledOrder(3, 1, 4);
        r.commit(2, 1);
        r.settledOrder(3, 1, 4, 2);
    }

    private static void lookAgain() {
        Run r = new Run(6, 3);
        r.beginAll(1, 5);
        r.read(3, 0, 0);
        r.write(5, 0, 1, DONE);
        r.read(3, 1, 0);
        r.write(2, 1, 2, DONE);
        r.write(2, 2, 2, DONE);
        r.write(1, 2, 3, DONE);
        r.commit(5, 1);
        r.commit(1, 1);
        r.commit(2, 1);
        r.settledOrder();
        r.commit(3, 1);
        // After 3 both 2 and 5 are free; 2 frees 1, which is smaller than 5.
        r.settledOrder(3, 2, 1, 5);
        r.status(4, ACTIVE);
    }

    private static void notByOtherCalls() {
        Run r = new Run(6, 3);
        r.beginAll(1, 4);
        r.write(1, 0, 1, DONE);
        r.read(2, 0, 1);
        r.read(1, 1, 0);
        r.write(3, 1, 3, DONE);
        r.commit(3, 1);
        r.status(3, COMMITTED);
        r.begin(5);
        r.read(4, 2, 0);
        r.write(4, 2, 5, DONE);
        r.add(4, 2, 5, 10);
        r.commit(2, 0);
        r.begin(6);
        r.statuses(ACTIVE, WAITING, COMMITTED, ACTIVE, ACTIVE, ACTIVE);
        r.settledOrder();
    }
}
