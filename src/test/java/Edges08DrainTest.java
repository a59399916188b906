/** The sentences of Promise 8, each with a test of its own. */
public final class Edges08DrainTest {
    private static final int[] SIZES = {1, 2, 4};

    public static void main(String[] args) {
        Sentences s = new Sentences();
        s.holds("`drain()` answers `EMPTY` if the buffer is empty.", Edges08DrainTest::empty);
        s.holds("Otherwise it writes the oldest store of the buffer", Edges08DrainTest::oldestFirst);
        s.holds("(all its size bytes) to memory, each byte to the cell it belongs to,", Edges08DrainTest::everyByte);
        s.holds("removes that store from the buffer, and answers `OK`.", Edges08DrainTest::removed);
        s.holds("The other cells,", Edges08DrainTest::otherCells);
        s.holds("the order of the stores left in the buffer,", Edges08DrainTest::orderOfTheRest);
        s.holds("the window (including executed loads and their values) and the remembered pairs do not change.",
                Edges08DrainTest::windowAndPairs);
        s.end();
    }

    private static void empty(Checks c) {
        LoadStoreQueue q = new LoadStoreQueue(4, 1, 16);
        c.changesNothing(q, "a new queue", q::drain, LoadStoreQueue.EMPTY);
        Fixtures.store(q, 1, 1, 0, 5);
        c.changesNothing(q, "a ready store in the window", q::drain, LoadStoreQueue.EMPTY);
        q.commit();
        q.drain();
        c.changesNothing(q, "all drained", q::drain, LoadStoreQueue.EMPTY);
        Fixtures.executedLoad(q, 1, 1, 0);
        q.commit();
        c.changesNothing(q, "a load was committed", q::drain, LoadStoreQueue.EMPTY);
    }

    private static void oldestFirst(Checks c) {
        for (int size = 1; size <= 8; size++) {
            LoadStoreQueue q = new LoadStoreQueue(4, size, 16);
            for (int i = 0; i < size; i++) {
                Fixtures.buffered(q, 1, 3, 100 + i);
            }
            for (int i = 0; i < 20; i++) {
                c.due("drain " + i, q.drain(), LoadStoreQueue.OK);
                c.due("what it wrote", q.memory(3, 0), 100 + i);
                Fixtures.buffered(q, 1, 3, 100 + size + i);
            }
        }
    }

    private static void everyByte(Checks c) {
        int data = 0xF4E3D2C1;
        for (int size : SIZES) {
            for (int at = 0; at <= 8 - size; at++) {
                LoadStoreQueue q = new LoadStoreQueue(4, 1, 8);
                Fixtures.buffered(q, size, at, data);
                q.drain();
                for (int i = 0; i < size; i++) {
                    c.due("byte " + i + " of " + size + " at " + at, q.memory(at + i, 0), data >>> 8 * i & 255);
                }
            }
        }
    }

    private static void removed(Checks c) {
        LoadStoreQueue q = new LoadStoreQueue(4, 8, 16);
        for (int i = 0; i < 8; i++) {
            Fixtures.buffered(q, 1, i, 0);
        }
        for (int left = 7; left >= 0; left--) {
            c.due("drain()", q.drain(), LoadStoreQueue.OK);
            c.due("pending()", q.pending(), left);
            c.due("memory(0, " + left + ")", q.memory(0, left), 0);
            c.due("memory(0, " + (left + 1) + ")", q.memory(0, left + 1), LoadStoreQueue.BAD_ARGUMENT);
        }
        for (int i = 0; i < 8; i++) {
            Fixtures.store(q, 1, 1, 0, 0);
            c.due("there is room for eight", q.commit(), LoadStoreQueue.STORE_DONE);
        }
    }

    private static void otherCells(Checks c) {
        for (int cells : new int[] {8, 64}) {
            for (int size : SIZES) {
                for (int at : new int[] {0, 3, cells - size}) {
                    LoadStoreQueue q = new LoadStoreQueue(4, 2, cells);
                    Fixtures.buffered(q, size, at, -1);
                    Fixtures.buffered(q, 1, at == 0 ? cells - 1 : 0, 0);
                    q.drain();
                    for (int a = 0; a < cells; a++) {
                        boolean written = at <= a && a < at + size;
                        c.due("cell " + a + " beside " + size + " at " + at, q.memory(a, 0), written ? 255 : 3 * a + 1);
                    }
                }
            }
        }
    }

    private static void orderOfTheRest(Checks c) {
        LoadStoreQueue q = new LoadStoreQueue(4, 8, 16);
        for (int i = 0; i < 8; i++) {
            Fixtures.buffered(q, SIZES[i % 3], 4 - i % 3, 0x01010101 * (i + 1));
        }
        for (int left = 8; left > 0; left--) {
            String[] before = new String[left];
            for (int n = 0; n < before.length; n++) {
                before[n] = Checks.memoryAfter(q, n + 1);
            }
            q.drain();
            for (int n = 0; n < before.length; n++) {
                c.same("memory after " + n + " more", Checks.memoryAfter(q, n), before[n]);
            }
        }
    }

    private static void windowAndPairs(Checks c) {
        LoadStoreQueue q = Fixtures.busy(c);
        String window = Checks.window(q);
        String sets = Checks.sets(q);
        for (int i = 0; i < 2; i++) {
            c.due("drain()", q.drain(), LoadStoreQueue.OK);
            c.same("the window", Checks.window(q), window);
            c.same("the sets", Checks.sets(q), sets);
        }
        // The cell of an executed load comes to hold another byte; the load's value stays.
        LoadStoreQueue other = new LoadStoreQueue(4, 2, 16);
        Fixtures.buffered(other, 1, 4, 50);
        Fixtures.buffered(other, 1, 4, 60);
        Fixtures.executedLoad(other, 1, 1, 4);
        other.drain();
        c.due("memory(4, 0)", other.memory(4, 0), 50);
        c.due("value(0)", other.value(0), 60);
        c.due("describe(0)", other.describe(0), 32 + 3);
    }
}
