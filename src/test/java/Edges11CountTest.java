/** The sentences of Promise 11, each with a test of its own. */
public final class Edges11CountTest {
    public static void main(String[] args) {
        Sentences s = new Sentences();
        s.holds("`count()` answers the number of operations in the window,", Edges11CountTest::theNumber);
        s.holds("0 .. `windowSize`.", Edges11CountTest::leastAndMost);
        s.holds("It changes nothing.", Edges11CountTest::changesNothing);
        s.end();
    }

    private static void theNumber(Checks c) {
        LoadStoreQueue q = new LoadStoreQueue(8, 1, 16);
        Fixtures.store(q, 1, 1, 0, 0);
        Fixtures.executedLoad(q, 1, 1, 0);
        Fixtures.bareStore(q, 1, 1);
        Fixtures.bareLoad(q, 1, 1);
        c.due("after four enters", q.count(), 4);
        q.enter(2, 0, 1);
        c.due("after a refused enter", q.count(), 4);
        q.commit();
        c.due("after a store's commit", q.count(), 3);
        q.commit();
        c.due("after a load's commit", q.count(), 2);
        q.commit();
        c.due("after a refused commit", q.count(), 2);
        q.drain();
        c.due("after drain", q.count(), 2);
        q.discard(2);
        c.due("after a refused discard", q.count(), 2);
        q.discard(1);
        c.due("after discard", q.count(), 1);
    }

    private static void leastAndMost(Checks c) {
        for (int size = 4; size <= 32; size++) {
            LoadStoreQueue q = new LoadStoreQueue(size, 1, 16);
            for (int n = 0; n <= size; n++) {
                c.due("count()", q.count(), n);
                q.enter(0, 0, 1);
            }
            c.due("count() when full", q.count(), size);
            q.discard(0);
            c.due("count() when empty again", q.count(), 0);
            q.commit();
            c.due("count() after commit of nothing", q.count(), 0);
        }
    }

    private static void changesNothing(Checks c) {
        LoadStoreQueue busy = Fixtures.busy(c);
        c.changesNothing(busy, "count()", busy::count, 10);
        c.changesNothing(busy, "count()", busy::count, 10);
        LoadStoreQueue empty = new LoadStoreQueue(4, 1, 8);
        c.changesNothing(empty, "count()", empty::count, 0);
    }
}
