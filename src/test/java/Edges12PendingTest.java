/** The sentences of Promise 12, each with a test of its own. */
public final class Edges12PendingTest {
    public static void main(String[] args) {
        Sentences s = new Sentences();
        s.holds("`pending()` answers the number of stores in the buffer,", Edges12PendingTest::theNumber);
        s.holds("0 .. `bufferSize`.", Edges12PendingTest::leastAndMost);
        s.holds("It changes nothing.", Edges12PendingTest::changesNothing);
        s.end();
    }

    private static void theNumber(Checks c) {
        LoadStoreQueue q = new LoadStoreQueue(8, 4, 16);
        Fixtures.store(q, 1, 1, 0, 0);
        Fixtures.executedLoad(q, 1, 1, 0);
        Fixtures.store(q, 1, 1, 0, 0);
        Fixtures.bareStore(q, 1, 1);
        c.due("stores in the window do not count", q.pending(), 0);
        q.commit();
        c.due("a store", q.pending(), 1);
        q.commit();
        c.due("a load", q.pending(), 1);
        q.commit();
        c.due("another store", q.pending(), 2);
        q.commit();
        c.due("a refused commit", q.pending(), 2);
        q.discard(0);
        c.due("discard", q.pending(), 2);
        q.drain();
        c.due("drain", q.pending(), 1);
    }

    private static void leastAndMost(Checks c) {
        for (int size = 1; size <= 8; size++) {
            LoadStoreQueue q = new LoadStoreQueue(4, size, 16);
            for (int n = 0; n <= size; n++) {
                c.due("pending()", q.pending(), n);
                Fixtures.store(q, 1, 1, 0, 0);
                q.commit();
            }
            c.due("pending() when full", q.pending(), size);
            for (int n = size - 1; n >= 0; n--) {
                q.drain();
                c.due("pending()", q.pending(), n);
            }
            q.drain();
            c.due("pending() after drain of nothing", q.pending(), 0);
        }
    }

    private static void changesNothing(Checks c) {
        LoadStoreQueue busy = Fixtures.busy(c);
        c.changesNothing(busy, "pending()", busy::pending, 2);
        c.changesNothing(busy, "pending()", busy::pending, 2);
        LoadStoreQueue empty = new LoadStoreQueue(4, 1, 8);
        c.changesNothing(empty, "pending()", empty::pending, 0);
    }
}
