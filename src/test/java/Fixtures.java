/** Queues in states that the tests start from. */
final class Fixtures {
    private Fixtures() {
    }

    static int load(LoadStoreQueue q, int pc, int size, int address) {
        int p = q.enter(LoadStoreQueue.LOAD, pc, size);
        q.setAddress(p, address);
        return p;
    }

    static int store(LoadStoreQueue q, int pc, int size, int address, int data) {
        int p = q.enter(LoadStoreQueue.STORE, pc, size);
        q.setAddress(p, address);
        q.setData(p, data);
        return p;
    }

    /** Makes the queue, whose window must be empty, remember the pair, and empties the window again. */
    static void pair(LoadStoreQueue q, int loadPc, int storePc) {
        q.enter(LoadStoreQueue.STORE, storePc, 1);
        load(q, loadPc, 1, 0);
        // A load that waits here is in the store's set already.
        if (q.execute(1) == LoadStoreQueue.OK) {
            q.setAddress(0, 0);
        }
        q.discard(0);
    }

    /**
     * Window 12, buffer 3, memory 24, and in it something of every sort:
     * cells 2..5 hold 11 22 33 44 (hex); in the buffer BEEF at 4, then 77 at 5; the pair (7, 6);
     * window:
     *   0 load pc 4 of 4 bytes at 3, executed: 22 from memory, EF and 77 from the buffer, 13 from memory
     *   1 store pc 5 of 2 bytes, address unknown, data 1234
     *   2 store pc 6 of 4 bytes at 8, data unknown
     *   3 load pc 7 of 2 bytes at 8, sent back by store 2
     *   4 load pc 8 of 1 byte at 20, executed
     *   5 store pc 9 of 1 byte, nothing known
     *   6 store pc 10 of 2 bytes at 12, data CAFE
     *   7 load pc 11 of 4 bytes at 10, not executed
     *   8 load pc 12 of 2 bytes, address unknown
     *   9 load pc 13 of 2 bytes at 12, executed
     */
    static LoadStoreQueue busy() {
        LoadStoreQueue q = new LoadStoreQueue(12, 3, 24);
        store(q, 1, 4, 2, 0x44332211);
        q.commit();
        q.drain();
        store(q, 2, 2, 4, 0xBEEF);
        q.commit();
        store(q, 3, 1, 5, 0x77);
        q.commit();
        load(q, 4, 4, 3);
        q.enter(LoadStoreQueue.STORE, 5, 2);
        q.setData(1, 0x1234);
        q.enter(LoadStoreQueue.STORE, 6, 4);
        load(q, 7, 2, 8);
        load(q, 8, 1, 20);
        q.executeReady();
        q.setAddress(2, 8);
        q.enter(LoadStoreQueue.STORE, 9, 1);
        store(q, 10, 2, 12, 0xCAFE);
        load(q, 11, 4, 10);
        q.enter(LoadStoreQueue.LOAD, 12, 2);
        load(q, 13, 2, 12);
        q.execute(9);
        return q;
    }
}
