/** The sentences of Promise 16, each with a test of its own. */
public final class Edges16MemoryTest {
    public static void main(String[] args) {
        Sentences s = new Sentences();
        s.holds("`memory(a, n)` answers `BAD_ARGUMENT` if a < 0 or a >= `memorySize`", Edges16MemoryTest::badCell);
        s.holds("or n < 0 or n > `pending()`.", Edges16MemoryTest::badNumber);
        s.holds("Otherwise it answers the byte (0..255) that memory cell a would hold after the n oldest stores of the"
                + " buffer had been drained.", Edges16MemoryTest::afterDrains);
        s.holds("With n = 0 this is what the cell holds now;", Edges16MemoryTest::now);
        s.holds("with n = `pending()` it is what the cell would hold after the whole buffer had been drained.",
                Edges16MemoryTest::afterAll);
        s.holds("Stores in the window have no part in it.", Edges16MemoryTest::windowHasNoPart);
        s.holds("The call changes nothing.", Edges16MemoryTest::changesNothing);
        s.end();
    }

    private static void badCell(Checks c) {
        for (int cells : new int[] {8, 9, 63, 64}) {
            LoadStoreQueue q = new LoadStoreQueue(4, 1, cells);
            Fixtures.buffered(q, 1, 0, 5);
            for (int a : new int[] {Integer.MIN_VALUE, -64, -1, cells, cells + 1, 64, 256, Integer.MAX_VALUE}) {
                c.changesNothing(q, "memory(" + a + ", 0)", () -> q.memory(a, 0), LoadStoreQueue.BAD_ARGUMENT);
                c.changesNothing(q, "memory(" + a + ", 1)", () -> q.memory(a, 1), LoadStoreQueue.BAD_ARGUMENT);
                c.changesNothing(q, "memory(" + a + ", 2)", () -> q.memory(a, 2), LoadStoreQueue.BAD_ARGUMENT);
            }
            c.due("the first cell", q.memory(0, 0), 1);
            c.due("the last cell", q.memory(cells - 1, 0), 3 * cells - 2);
        }
    }

    private static void badNumber(Checks c) {
        for (int pending = 0; pending <= 8; pending++) {
            LoadStoreQueue q = new LoadStoreQueue(4, 8, 16);
            for (int i = 0; i < pending; i++) {
                Fixtures.buffered(q, 1, 0, 5);
            }
            for (int n : new int[] {Integer.MIN_VALUE, -8, -1, pending + 1, pending + 2, 9, Integer.MAX_VALUE}) {
                c.changesNothing(q, "memory(0, " + n + ")", () -> q.memory(0, n), LoadStoreQueue.BAD_ARGUMENT);
            }
            c.due("memory(0, 0)", q.memory(0, 0), 1);
            c.due("memory(0, " + pending + ")", q.memory(0, pending), pending == 0 ? 1 : 5);
            q.drain();
            c.due("one too many after drain", q.memory(0, pending == 0 ? 1 : pending), LoadStoreQueue.BAD_ARGUMENT);
        }
    }

    // Each number of drains is also done, and memory then read as it is.
    private static void afterDrains(Checks c) {
        int[] sizes = {4, 1, 2, 4, 1, 1, 2, 4};
        int[] at = {2, 2, 4, 5, 8, 15, 0, 12};
        int[] data = {-1, 0, 0x80FF, 0x04030201, 255, 256, 0x1234, Integer.MIN_VALUE};
        for (int n = 0; n <= 8; n++) {
            LoadStoreQueue asked = new LoadStoreQueue(4, 8, 16);
            LoadStoreQueue drained = new LoadStoreQueue(4, 8, 16);
            for (int i = 0; i < 8; i++) {
                Fixtures.buffered(asked, sizes[i], at[i], data[i]);
                Fixtures.buffered(drained, sizes[i], at[i], data[i]);
            }
            for (int i = 0; i < n; i++) {
                drained.drain();
            }
            for (int a = 0; a < 16; a++) {
                c.due("memory(" + a + ", " + n + ")", asked.memory(a, n), drained.memory(a, 0));
            }
        }
        LoadStoreQueue q = new LoadStoreQueue(4, 8, 16);
        for (int i = 0; i < 8; i++) {
            Fixtures.buffered(q, 1, 3, 255 - i);
        }
        for (int n = 0; n <= 8; n++) {
            c.due("memory(3, " + n + ")", q.memory(3, n), n == 0 ? 10 : 256 - n);
            c.due("memory(2, " + n + ")", q.memory(2, n), 7);
            c.due("memory(4, " + n + ")", q.memory(4, n), 13);
        }
    }

    private static void now(Checks c) {
        LoadStoreQueue q = new LoadStoreQueue(4, 2, 16);
        c.due("at the start", q.memory(5, 0), 16);
        Fixtures.buffered(q, 1, 5, 50);
        Fixtures.buffered(q, 1, 5, 60);
        c.due("with two in the buffer", q.memory(5, 0), 16);
        q.drain();
        c.due("after one drain", q.memory(5, 0), 50);
        q.drain();
        c.due("after two drains", q.memory(5, 0), 60);
    }

    private static void afterAll(Checks c) {
        LoadStoreQueue q = new LoadStoreQueue(4, 8, 16);
        c.due("an empty buffer", q.memory(5, q.pending()), 16);
        for (int i = 1; i <= 8; i++) {
            Fixtures.buffered(q, 1, 5, 10 * i);
            c.due("with " + i + " in the buffer", q.memory(5, q.pending()), 10 * i);
        }
        for (int i = 1; i <= 8; i++) {
            q.drain();
            c.due("after " + i + " drains", q.memory(5, q.pending()), 80);
        }
    }

    private static void windowHasNoPart(Checks c) {
        LoadStoreQueue q = new LoadStoreQueue(8, 2, 16);
        Fixtures.store(q, 1, 1, 5, 50);
        c.due("memory(5, 0)", q.memory(5, 0), 16);
        c.due("memory(5, 1)", q.memory(5, 1), LoadStoreQueue.BAD_ARGUMENT);
        q.commit();
        Fixtures.store(q, 1, 1, 5, 60);
        Fixtures.executedLoad(q, 1, 1, 5);
        c.due("memory(5, 0)", q.memory(5, 0), 16);
        c.due("memory(5, 1)", q.memory(5, 1), 50);
        q.discard(0);
        q.drain();
        c.due("memory(5, 0)", q.memory(5, 0), 50);
    }

    private static void changesNothing(Checks c) {
        LoadStoreQueue q = Fixtures.busy(c);
        int[] want = {0x44, 0xBE, 0x77};
        for (int i = 0; i < 3; i++) {
            int n = i;
            c.changesNothing(q, "memory(5, " + n + ")", () -> q.memory(5, n), want[n]);
        }
    }
}
