/** The sentences of Promise 9, each with a test of its own. */
public final class Edges09DiscardTest {
    public static void main(String[] args) {
        Sentences s = new Sentences();
        s.holds("`discard(p)` answers `NO_OP` if no such position.", Edges09DiscardTest::noSuchPosition);
        s.holds("Otherwise it removes the operation at position p and all younger ones from the window",
                Edges09DiscardTest::removesTheYoung);
        s.holds("and answers how many were removed, which is `count()` before the call minus p.",
                Edges09DiscardTest::answerIsTheNumber);
        s.holds("`discard(0)` on a window that is not empty removes all its operations.",
                Edges09DiscardTest::discardAll);
        s.holds("There is no effect on memory, buffer and sets;", Edges09DiscardTest::memoryBufferAndSets);
        s.holds("pairs remembered because of removed operations stay remembered.", Edges09DiscardTest::pairsStay);
        s.holds("The operations older than p stay as they are, at their positions.", Edges09DiscardTest::olderStay);
        s.end();
    }

    private static void noSuchPosition(Checks c) {
        LoadStoreQueue q = Fixtures.busy(c);
        for (int p : Fixtures.noPositions(q)) {
            c.changesNothing(q, "discard(" + p + ")", () -> q.discard(p), LoadStoreQueue.NO_OP);
        }
        LoadStoreQueue empty = new LoadStoreQueue(4, 1, 8);
        c.changesNothing(empty, "discard(0) of nothing", () -> empty.discard(0), LoadStoreQueue.NO_OP);
        LoadStoreQueue full = new LoadStoreQueue(32, 1, 8);
        for (int i = 0; i < 32; i++) {
            Fixtures.bareLoad(full, 0, 1);
        }
        c.changesNothing(full, "discard(32) of 32", () -> full.discard(32), LoadStoreQueue.NO_OP);
        c.due("discard(31) of 32", full.discard(31), 1);
        c.changesNothing(full, "and once more", () -> full.discard(31), LoadStoreQueue.NO_OP);
    }

    private static void removesTheYoung(Checks c) {
        for (int p = 0; p < 10; p++) {
            LoadStoreQueue q = Fixtures.busy(c);
            q.discard(p);
            c.due("count()", q.count(), p);
            for (int gone = p; gone < 12; gone++) {
                c.due("describe(" + gone + ")", q.describe(gone), LoadStoreQueue.NO_OP);
            }
        }
        // A removed store is no source, and a removed store sets no load waiting.
        LoadStoreQueue q = new LoadStoreQueue(8, 1, 16);
        Fixtures.pair(q, 2, 1);
        Fixtures.store(q, 1, 1, 4, 50);
        Fixtures.store(q, 1, 1, 4, 60);
        Fixtures.bareStore(q, 1, 1);
        q.discard(1);
        Fixtures.load(q, 2, 1, 4);
        c.due("execute(1)", q.execute(1), LoadStoreQueue.OK);
        c.due("value(1)", q.value(1), 50);
    }

    private static void answerIsTheNumber(Checks c) {
        for (int count = 1; count <= 32; count++) {
            for (int p = 0; p < count; p++) {
                LoadStoreQueue q = new LoadStoreQueue(32, 1, 16);
                for (int i = 0; i < count; i++) {
                    q.enter(i % 2, 0, 1);
                }
                c.due("discard(" + p + ") of " + count, q.discard(p), count - p);
            }
        }
    }

    private static void discardAll(Checks c) {
        for (int count : new int[] {1, 2, 31, 32}) {
            LoadStoreQueue q = new LoadStoreQueue(32, 1, 16);
            for (int i = 0; i < count; i++) {
                Fixtures.store(q, 0, 1, 0, 0);
            }
            c.due("discard(0) of " + count, q.discard(0), count);
            c.due("count()", q.count(), 0);
            c.due("commit()", q.commit(), LoadStoreQueue.EMPTY);
            c.due("the first again", q.enter(0, 0, 1), 0);
        }
    }

    private static void memoryBufferAndSets(Checks c) {
        for (int p = 0; p < 10; p++) {
            LoadStoreQueue q = Fixtures.busy(c);
            String memory = Checks.memory(q);
            String sets = Checks.sets(q);
            q.discard(p);
            c.same("buffer and memory", Checks.memory(q), memory);
            c.same("sets", Checks.sets(q), sets);
        }
    }

    private static void pairsStay(Checks c) {
        for (int p = 0; p <= 1; p++) {
            LoadStoreQueue q = new LoadStoreQueue(4, 1, 16);
            Fixtures.bareStore(q, 1, 1);
            Fixtures.executedLoad(q, 2, 1, 4);
            q.setAddress(0, 4);
            q.discard(p);
            c.due("sameSet(1, 2)", q.sameSet(1, 2), 1);
            c.due("sameSet(1, 1)", q.sameSet(1, 1), 1);
            q.discard(0);
            Fixtures.bareStore(q, 1, 1);
            Fixtures.load(q, 2, 1, 4);
            c.due("they still predict", q.execute(1), LoadStoreQueue.PREDICTED);
        }
    }

    private static void olderStay(Checks c) {
        for (int p = 0; p < 10; p++) {
            LoadStoreQueue q = Fixtures.busy(c);
            String older = Checks.window(q, 0, p);
            q.discard(p);
            c.same("those older than " + p, Checks.window(q), p + ":" + older);
        }
    }
}
