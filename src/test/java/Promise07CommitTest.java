/** Promise 7: commit. */
public final class Promise07CommitTest {
    public static void main(String[] args) {
        Checks c = new Checks();
        empty(c);
        loads(c);
        stores(c);
        fullBuffer(c);
        theRestStays(c);
        inOrder(c);
        aFullWindow(c);
        c.end();
    }

    private static void empty(Checks c) {
        LoadStoreQueue q = new LoadStoreQueue(4, 1, 16);
        c.changesNothing(q, "a new queue", q::commit, LoadStoreQueue.EMPTY);
        Fixtures.store(q, 1, 1, 0, 5);
        q.commit();
        c.changesNothing(q, "empty window, full buffer", q::commit, LoadStoreQueue.EMPTY);
        Fixtures.store(q, 1, 1, 0, 5);
        q.discard(0);
        c.changesNothing(q, "all discarded", q::commit, LoadStoreQueue.EMPTY);
    }

    private static void loads(Checks c) {
        LoadStoreQueue q = new LoadStoreQueue(8, 1, 16);
        q.enter(0, 1, 4);
        c.changesNothing(q, "a load without address", q::commit, LoadStoreQueue.NOT_READY);
        q.setAddress(0, 4);
        c.changesNothing(q, "a load not executed", q::commit, LoadStoreQueue.NOT_READY);
        q.execute(0);
        c.due("an executed load", q.commit(), 0x1613100DL);
        c.due("count()", q.count(), 0);
        c.due("pending()", q.pending(), 0);

        Fixtures.store(q, 2, 4, 0, -1);
        Fixtures.load(q, 1, 4, 0);
        q.execute(1);
        q.commit();
        c.due("the greatest value", q.commit(), 4294967295L);

        q.enter(1, 2, 1);
        Fixtures.load(q, 3, 1, 9);
        q.execute(1);
        q.setData(0, 1);
        q.setAddress(0, 9);
        q.drain();
        c.due("the store", q.commit(), LoadStoreQueue.STORE_DONE);
        c.changesNothing(q, "a load sent back", q::commit, LoadStoreQueue.NOT_READY);
        q.execute(0);
        c.due("executed again", q.commit(), 1);

        LoadStoreQueue zero = new LoadStoreQueue(8, 1, 16);
        Fixtures.store(zero, 2, 1, 0, 0);
        Fixtures.load(zero, 1, 1, 0);
        zero.execute(1);
        zero.commit();
        c.due("a load of 0", zero.commit(), 0);
    }

    private static void stores(Checks c) {
        LoadStoreQueue q = new LoadStoreQueue(8, 2, 16);
        q.enter(1, 1, 2);
        q.enter(1, 2, 2);
        c.changesNothing(q, "nothing known", q::commit, LoadStoreQueue.NOT_READY);
        q.setAddress(0, 4);
        c.changesNothing(q, "data unknown", q::commit, LoadStoreQueue.NOT_READY);
        q.setData(0, 0xABCD);
        c.due("both known", q.commit(), LoadStoreQueue.STORE_DONE);
        q.setData(0, 0x1234);
        c.changesNothing(q, "address unknown", q::commit, LoadStoreQueue.NOT_READY);
        q.setAddress(0, 5);
        c.due("both known", q.commit(), LoadStoreQueue.STORE_DONE);
        c.due("count()", q.count(), 0);
        c.due("pending()", q.pending(), 2);
        c.due("memory is as before: 4", q.memory(4, 0), 13);
        c.due("memory is as before: 5", q.memory(5, 0), 16);
        c.due("the first in the buffer: 4", q.memory(4, 1), 0xCD);
        c.due("the first in the buffer: 5", q.memory(5, 1), 0xAB);
        c.due("the youngest in the buffer: 4", q.memory(4, 2), 0xCD);
        c.due("the youngest in the buffer: 5", q.memory(5, 2), 0x34);
        c.due("the youngest in the buffer: 6", q.memory(6, 2), 0x12);
    }

    private static void fullBuffer(Checks c) {
        for (int size = 1; size <= 8; size++) {
            LoadStoreQueue q = new LoadStoreQueue(32, size, 16);
            for (int i = 0; i < size; i++) {
                Fixtures.store(q, 1, 1, i, 100 + i);
                c.due("commit", q.commit(), LoadStoreQueue.STORE_DONE);
                c.due("pending()", q.pending(), i + 1);
            }
            Fixtures.load(q, 2, 1, 0);
            q.execute(0);
            c.due("a load with a full buffer", q.commit(), 100);
            q.enter(1, 1, 1);
            c.changesNothing(q, "not ready before full", q::commit, LoadStoreQueue.NOT_READY);
            q.setData(0, 7);
            c.changesNothing(q, "not ready before full", q::commit, LoadStoreQueue.NOT_READY);
            q.setAddress(0, 15);
            c.changesNothing(q, "a store with a full buffer", q::commit, LoadStoreQueue.FULL);
            q.drain();
            c.due("after a drain", q.commit(), LoadStoreQueue.STORE_DONE);
            c.due("pending() is full again", q.pending(), size);
            c.due("the youngest is last", q.memory(15, size) * 1000 + q.memory(15, size - 1), 7046);
        }
    }

    private static void theRestStays(Checks c) {
        LoadStoreQueue q = Fixtures.busy();
        String rest = Checks.window(q, 1, 10);
        String memory = Checks.memory(q);
        String sets = Checks.sets(q);
        c.due("the load", q.commit(), 0x1377EF22L);
        c.due("count()", q.count(), 9);
        c.same("the others, one down", Checks.window(q, 0, 9), rest);
        c.due("no position 9", q.describe(9), LoadStoreQueue.NO_OP);
        c.same("buffer and memory", Checks.memory(q), memory);
        c.same("sets", Checks.sets(q), sets);
        q.setAddress(0, 0);
        String now = Checks.memoryAfter(q, 0) + Checks.memoryAfter(q, 1) + Checks.memoryAfter(q, 2);
        rest = Checks.window(q, 1, 9);
        c.due("the store", q.commit(), LoadStoreQueue.STORE_DONE);
        c.same("the others, one down", Checks.window(q), "8:" + rest);
        c.same("memory and the older in the buffer",
                Checks.memoryAfter(q, 0) + Checks.memoryAfter(q, 1) + Checks.memoryAfter(q, 2), now);
        c.due("pending()", q.pending(), 3);
        c.same("sets", Checks.sets(q), sets);
    }

    // A committed store is still older than every operation in the window.
    private static void inOrder(Checks c) {
        LoadStoreQueue q = new LoadStoreQueue(4, 8, 16);
        Fixtures.store(q, 1, 1, 0, 50);
        q.enter(1, 2, 1);
        Fixtures.load(q, 3, 1, 0);
        Fixtures.load(q, 3, 1, 0);
        q.execute(2);
        q.commit();
        q.execute(2);
        c.due("executed before the commit", q.value(1), 50);
        c.due("executed after it", q.value(2), 50);
        c.due("a store in the window hides the buffer", q.setAddress(0, 0), 2);
        q.setData(0, 60);
        c.due("both again", q.executeReady(), 2);
        q.commit();
        c.due("first load", q.commit(), 60);
        c.due("second load", q.commit(), 60);
    }

    private static void aFullWindow(Checks c) {
        for (int size = 4; size <= 32; size++) {
            LoadStoreQueue q = new LoadStoreQueue(size, 1, 64);
            for (int i = 0; i < size; i++) {
                Fixtures.load(q, i % 16, 1, i);
            }
            q.executeReady();
            for (int i = 0; i < 2 * size; i++) {
                c.due("commit " + i + " of a window of " + size, q.commit(), 3 * (i % size) + 1);
                c.due("enter at the young end", q.enter(0, 3, 1), size - 1);
                q.setAddress(size - 1, i % size);
                q.execute(size - 1);
            }
        }
    }
}
