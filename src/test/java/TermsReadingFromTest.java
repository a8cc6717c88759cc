final class TermsReadingFromTest implements Answers {
    public static void main(String[] args) {
        Check.part("Terms, Reading from");
        Check.sentence("when a read or add of t on x is carried out", TermsReadingFromTest::readsAndAdds);
        Check.sentence("let w be the last writer of x just before", TermsReadingFromTest::lastWriterJustBefore);
        Check.sentence("let w be the last writer of x just before", TermsReadingFromTest::abortedWritersArePassedOver);
        Check.sentence("If w exists", TermsReadingFromTest::noWriter);
        Check.sentence("w is not t", TermsReadingFromTest::ownWrite);
        Check.sentence("w is not t", TermsReadingFromTest::ownWriteOverAnothers);
        Check.sentence("w is unfinished at that moment", TermsReadingFromTest::activeOrWaiting);
        Check.sentence("from then on t has read from w", TermsReadingFromTest::fromThenOn);
        Check.sentence("from then on t has read from w", TermsReadingFromTest::numbersFarApart);
        Check.sentence("Otherwise this operation adds no such relation.", TermsReadingFromTest::committedWriter);
        Check.sentence("Otherwise this operation adds no such relation.", TermsReadingFromTest::settledWriter);
        Check.sentence("Otherwise this operation adds no such relation.", TermsReadingFromTest::keepsEarlierRelations);
        Check.sentence("A write reads from nobody.", TermsReadingFromTest::writeReadsFromNobody);
        Check.sentence("The relation is direct only (not transitive).", TermsReadingFromTest::directOnly);
        Check.finish();
    }

    private static void readsAndAdds() {
        Run r = new Run(4, 2);
        r.beginAll(1, 4);
        r.write(1, 0, 5, DONE);
        r.waitsFor(2, 1, 0);
        r.read(2, 0, 5);
        r.waitsFor(2, 1, 1);
        r.add(3, 0, 1, 6);
        r.waitsFor(3, 1, 1);
        r.waitsFor(4, 1, 0);
        r.waitsFor(1, 2, 0);
        r.waitsFor(1, 3, 0);
    }

    private static void lastWriterJustBefore() {
        Run r = new Run(5, 2);
        r.beginAll(1, 5);
        r.write(1, 0, 1, DONE);
        r.write(2, 0, 2, DONE);
        r.read(3, 0, 2);
        r.waitsFor(3, 2, 1);
        r.waitsFor(3, 1, 0);
        // Later writers change nothing in what was read before, and other items' writers are not asked.
        r.write(4, 0, 4, DONE);
        r.write(4, 1, 4, DONE);
        r.waitsFor(3, 4, 0);
        r.add(5, 0, 1, 5);
        r.waitsFor(5, 4, 1);
        r.waitsFor(5, 5, 0);
        r.waitsFor(5, 3, 0);
        r.waitsFor(5, 2, 0);
    }

    private static void abortedWritersArePassedOver() {
        Run r = new Run(5, 1);
        r.beginAll(1, 4);
        r.write(1, 0, 1, DONE);
        r.write(2, 0, 2, DONE);
        r.abort(2, 1);
        r.read(3, 0, 1);
        r.waitsFor(3, 1, 1);
        r.add(4, 0, 1, 2);
        r.waitsFor(4, 1, 1);
    }

    private static void noWriter() {
        Run r = new Run(4, 2);
        r.beginAll(1, 3);
        r.read(1, 0, 0);
        r.read(2, 0, 0);
        r.add(2, 1, 3, 3);
        for (int t = 1; t <= 3; t++) {
            for (int u = 1; u <= 3; u++) {
                r.waitsFor(t, u, 0);
            }
        }
        r.commit(2, 1);
        r.commit(1, 1);
    }

    private static void ownWrite() {
        Run r = new Run(2, 1);
        r.begin(1);
        r.write(1, 0, 5, DONE);
        r.read(1, 0, 5);
        r.add(1, 0, 1, 6);
        r.add(1, 0, 1, 7);
        r.waitsFor(1, 1, 0);
        // Had it read from itself, it would wait for itself for ever.
        r.commit(1, 1);
        r.status(1, SETTLED);
    }

    private static void ownWriteOverAnothers() {
        Run r = new Run(3, 1);
        r.beginAll(1, 2);
        r.write(1, 0, 5, DONE);
        r.write(2, 0, 6, DONE);
        r.read(2, 0, 6);
        r.add(2, 0, 1, 7);
        r.waitsFor(2, 1, 0);
        r.commit(2, 1);
        r.statuses(ACTIVE, COMMITTED);
    }

    private static void activeOrWaiting() {
        Run r = new Run(4, 2);
        r.beginAll(1, 4);
        r.write(1, 0, 1, DONE);
        r.add(2, 0, 1, 2);
        r.waitsFor(2, 1, 1);
        r.commit(2, 0);
        r.status(2, WAITING);
        r.read(3, 0, 2);
        r.waitsFor(3, 2, 1);
        r.add(4, 0, 1, 3);
        r.waitsFor(4, 2, 1);
    }

    private static void fromThenOn() {
        Run r = new Run(4, 2);
        r.beginAll(1, 3);
        r.write(1, 0, 1, DONE);
        r.read(2, 0, 1);
        r.waitsFor(2, 1, 1);
        // Neither its own later operations nor those of others end the relation.
        r.write(2, 0, 5, DONE);
        r.read(2, 0, 5);
        r.read(2, 1, 0);
        r.write(3, 0, 6, DONE);
        r.commit(3, 1);
        r.waitsFor(2, 1, 1);
        r.commit(2, 0);
        r.waitsFor(2, 1, 1);
        r.abort(1, 2);
        r.status(2, ABORTED);
    }

    private static void numbersFarApart() {
        Run r = Scenes.farApart();
        r.write(1, 0, 5, DONE);
        r.read(33, 0, 5);
        r.write(64, 1, 6, DONE);
        r.read(32, 1, 6);
        for (int t : Scenes.FAR_APART) {
            for (int u : Scenes.FAR_APART) {
                r.waitsFor(t, u, t == 33 && u == 1 || t == 32 && u == 64 ? 1 : 0);
            }
        }
        r.commit(33, 0);
        r.commit(32, 0);
        r.abort(64, 2);
        r.status(32, ABORTED);
        r.commit(1, 2);
        r.settledOrder(1, 33);
    }

    private static void committedWriter() {
        Run r = new Run(4, 1);
        r.beginAll(1, 4);
        r.read(1, 0, 0);
        r.write(2, 0, 5, DONE);
        r.commit(2, 1);
        r.status(2, COMMITTED);
        r.read(3, 0, 5);
        r.add(4, 0, 1, 6);
        r.waitsFor(3, 2, 0);
        r.waitsFor(4, 2, 0);
        r.commit(3, 1);
        r.commit(4, 1);
        r.statuses(ACTIVE, COMMITTED, COMMITTED, COMMITTED);
    }

    private static void settledWriter() {
        Run r = new Run(4, 1);
        r.beginAll(1, 3);
        r.write(1, 0, 5, DONE);
        r.commit(1, 1);
        r.status(1, SETTLED);
        r.read(2, 0, 5);
        r.add(3, 0, 1, 6);
        r.commit(2, 1);
        r.commit(3, 1);
        r.settledOrder(1, 2, 3);
    }

    private static void keepsEarlierRelations() {
        Run r = new Run(5, 3);
        r.beginAll(1, 4);
        r.write(1, 0, 1, DONE);
        r.write(2, 1, 2, DONE);
        r.write(4, 2, 4, DONE);
        r.commit(4, 1);
        r.read(3, 0, 1);
        r.read(3, 1, 2);
        // A read of a settled value adds none and takes none away.
        r.read(3, 2, 4);
        r.waitsFor(3, 1, 1);
        r.waitsFor(3, 2, 1);
        r.waitsFor(3, 4, NOT_OPEN);
    }

    private static void writeReadsFromNobody() {
        Run r = new Run(3, 1);
        r.beginAll(1, 3);
        r.write(1, 0, 1, DONE);
        r.write(2, 0, 2, DONE);
        r.waitsFor(2, 1, 0);
        r.commit(2, 1);
        r.status(2, COMMITTED);
        r.write(3, 0, 3, DONE);
        r.abort(1, 1);
        r.statuses(ABORTED, SETTLED, ACTIVE);
    }

    private static void directOnly() {
        Run r = new Run(4, 2);
        r.beginAll(1, 3);
        r.write(1, 0, 1, DONE);
        r.read(2, 0, 1);
        r.write(2, 1, 2, DONE);
        r.read(3, 1, 2);
        r.waitsFor(2, 1, 1);
        r.waitsFor(3, 2, 1);
        r.waitsFor(3, 1, 0);
    }
}
