/** Queues in states that the tests start from. */
final class Fixtures {
    private Fixtures() {
    }

    /** A load of which no address is known. */
    static int bareLoad(LoadStoreQueue q, int pc, int size) {
        return q.enter(LoadStoreQueue.LOAD, pc, size);
    }

    /** A store of which neither address nor data are known. */
    static int bareStore(LoadStoreQueue q, int pc, int size) {
        return q.enter(LoadStoreQueue.STORE, pc, size);
    }

    static int load(LoadStoreQueue q, int pc, int size, int address) {
        int p = q.enter(LoadStoreQueue.LOAD, pc, size);
        q.setAddress(p, address);
        return p;
    }

    static int store(LoadStoreQueue q, int pc, int size, int address, int data) {
        int p = q.enter(LoadStoreQueue.STORE, pc, size);
        q.setAddress(p, address);
        q.setData(p, data);
        return p;
    }

    /** A load that could be executed at once, and was. */
    static int executedLoad(LoadStoreQueue q, int pc, int size, int address) {
        int p = load(q, pc, size, address);
        q.execute(p);
        return p;
    }

    /** Puts a store into the buffer of a queue whose window is empty. */
    static void buffered(LoadStoreQueue q, int size, int address, int data) {
        store(q, 0, size, address, data);
        q.commit();
    }

    /** The nearest and the farthest ints that are no position in the window. */
    static int[] noPositions(LoadStoreQueue q) {
        int count = q.count();
        return new int[] {Integer.MIN_VALUE, -32, -1, count, count + 1, 32, 33, Integer.MAX_VALUE};
    }

    /** Makes the queue, whose window must be empty, remember the pair, and empties the window again. */
    static void pair(LoadStoreQueue q, int loadPc, int storePc) {
        q.enter(LoadStoreQueue.STORE, storePc, 1);
        load(q, loadPc, 1, 0);
        // A load that waits here is in the store's set already.
        if (q.execute(1) == LoadStoreQueue.OK) {
            q.setAddress(0, 0);
        }
        q.discard(0);
    }

    /**
     * Window 12, buffer 3, memory 24, and in it something of every sort:
     * cells 2..5 hold 11 22 33 44 (hex); in the buffer BEEF at 4, then 77 at 5; the pair (7, 6);
     * window:
     *   0 load pc 4 of 4 bytes at 3, executed: 22 from memory, EF and 77 from the buffer, 13 from memory
     *   1 store pc 5 of 2 bytes, address unknown, data 1234
     *   2 store pc 6 of 4 bytes at 8, data unknown
     *   3 load pc 7 of 2 bytes at 8, sent back by store 2
     *   4 load pc 8 of 1 byte at 20, executed
     *   5 store pc 9 of 1 byte, nothing known
     *   6 store pc 10 of 2 bytes at 12, data CAFE
     *   7 load pc 11 of 4 bytes at 10, not executed
     *   8 load pc 12 of 2 bytes, address unknown
     *   9 load pc 13 of 2 bytes at 12, executed
     */
    static LoadStoreQueue busy() {
        LoadStoreQueue q = new LoadStoreQueue(12, 3, 24);
        store(q, 1, 4, 2, 0x44332211);
        q.commit();
        q.drain();
        store(q, 2, 2, 4, 0xBEEF);
        q.commit();
        store(q, 3, 1, 5, 0x77);
        q.commit();
        load(q, 4, 4, 3);
        q.enter(LoadStoreQueue.STORE, 5, 2);
        q.setData(1, 0x1234);
        q.enter(LoadStoreQueue.STORE, 6, 4);
        load(q, 7, 2, 8);
        load(q, 8, 1, 20);
        q.executeReady();
        q.setAddress(2, 8);
        q.enter(LoadStoreQueue.STORE, 9, 1);
        store(q, 10, 2, 12, 0xCAFE);
        load(q, 11, 4, 10);
        q.enter(LoadStoreQueue.LOAD, 12, 2);
        load(q, 13, 2, 12);
        q.execute(9);
        return q;
    }

    /**
     * The busy queue, held against what is said of it above. Tests that compare what shows before a call
     * with what shows after it need this: reading or building might itself have spoilt what was there before.
     */
    static LoadStoreQueue busy(Checks c) {
        LoadStoreQueue q = busy();
        c.same("the busy queue", Checks.all(q), "10:(147 3 326627106)(173 -6 4660)(214 8 -9)(234 8 -9)(259 20 61)"
                + "(292 -6 -9)(335 12 51966)(370 10 -9)(392 -6 -9)(427 12 51966) | 2: "
                + busyCells(0x33, 0x44) + busyCells(0xEF, 0xBE) + busyCells(0xEF, 0x77) + " | " + busySets());
        return q;
    }

    private static String busyCells(int fourth, int fifth) {
        StringBuilder text = new StringBuilder();
        int[] written = {0x11, 0x22, fourth, fifth};
        for (int a = -1; a <= 64; a++) {
            int cell = a >= 2 && a <= 5 ? written[a - 2] : 3 * a + 1;
            text.append(a >= 0 && a < 24 ? cell : LoadStoreQueue.BAD_ARGUMENT).append(' ');
        }
        return text.append("/ ").toString();
    }

    private static String busySets() {
        String none = "0000000000000000 ";
        String both = "0000001100000000 ";
        return none.repeat(6) + both.repeat(2) + none.repeat(8);
    }
}
