/** Promise 12: pending. */
public final class Promise12PendingTest {
    public static void main(String[] args) {
        Checks c = new Checks();
        LoadStoreQueue q = new LoadStoreQueue(8, 3, 8);
        c.due("at the start", q.pending(), 0);
        for (int i = 0; i < 4; i++) {
            Fixtures.store(q, 1, 1, 0, i);
        }
        c.due("stores in the window do not count", q.pending(), 0);
        for (int i = 1; i <= 3; i++) {
            q.commit();
            c.due("after commit of a store", q.pending(), i);
        }
        q.commit();
        c.due("after a refused commit", q.pending(), 3);
        q.discard(0);
        c.due("after discard", q.pending(), 3);
        Fixtures.load(q, 1, 1, 0);
        q.execute(0);
        q.commit();
        c.due("after commit of a load", q.pending(), 3);
        for (int i = 2; i >= 0; i--) {
            q.drain();
            c.due("after drain", q.pending(), i);
        }
        q.drain();
        c.due("after a refused drain", q.pending(), 0);
        LoadStoreQueue busy = Fixtures.busy();
        c.changesNothing(busy, "pending()", busy::pending, 2);
        c.end();
    }
}
