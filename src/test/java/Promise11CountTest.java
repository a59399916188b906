/** Promise 11: count. */
public final class Promise11CountTest {
    public static void main(String[] args) {
        Checks c = new Checks();
        LoadStoreQueue q = new LoadStoreQueue(5, 1, 8);
        c.due("at the start", q.count(), 0);
        for (int i = 1; i <= 5; i++) {
            Fixtures.store(q, 1, 1, 0, i);
            c.due("after enter", q.count(), i);
        }
        q.enter(0, 0, 1);
        c.due("after a refused enter", q.count(), 5);
        q.enter(7, 0, 1);
        c.due("after a wrong enter", q.count(), 5);
        q.commit();
        c.due("after commit", q.count(), 4);
        q.commit();
        c.due("after a refused commit", q.count(), 4);
        q.drain();
        c.due("after drain", q.count(), 4);
        q.discard(2);
        c.due("after discard", q.count(), 2);
        q.discard(2);
        c.due("after a refused discard", q.count(), 2);
        q.discard(0);
        c.due("after discard of all", q.count(), 0);
        LoadStoreQueue busy = Fixtures.busy();
        c.changesNothing(busy, "count()", busy::count, 10);
        c.end();
    }
}
