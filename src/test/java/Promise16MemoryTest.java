/** Promise 16: memory. */
public final class Promise16MemoryTest {
    public static void main(String[] args) {
        Checks c = new Checks();
        refusals(c);
        ordinary(c);
        eightInTheBuffer(c);
        windowHasNoPart(c);
        c.end();
    }

    private static void refusals(Checks c) {
        LoadStoreQueue q = Fixtures.busy();
        for (int a : new int[] {-1, 24, 25, 63, 64, Integer.MIN_VALUE, Integer.MAX_VALUE}) {
            for (int n = 0; n <= 2; n++) {
                int drains = n;
                c.changesNothing(q, "memory(" + a + ", " + n + ")",
                        () -> q.memory(a, drains), LoadStoreQueue.BAD_ARGUMENT);
            }
        }
        for (int n : new int[] {-1, 3, 4, 8, Integer.MIN_VALUE, Integer.MAX_VALUE}) {
            c.changesNothing(q, "memory(0, " + n + ")", () -> q.memory(0, n), LoadStoreQueue.BAD_ARGUMENT);
            c.changesNothing(q, "memory(-1, " + n + ")", () -> q.memory(-1, n), LoadStoreQueue.BAD_ARGUMENT);
        }
        c.changesNothing(q, "the last cell", () -> q.memory(23, 2), 70);
        c.changesNothing(q, "the first cell", () -> q.memory(0, 0), 1);
    }

    private static void ordinary(Checks c) {
        LoadStoreQueue q = Fixtures.busy();
        int[][] want = {
            {1, 4, 0x11, 0x22, 0x33, 0x44, 19},
            {1, 4, 0x11, 0x22, 0xEF, 0xBE, 19},
            {1, 4, 0x11, 0x22, 0xEF, 0x77, 19}
        };
        for (int n = 0; n <= 2; n++) {
            for (int a = 0; a < 7; a++) {
                c.due("memory(" + a + ", " + n + ")", q.memory(a, n), want[n][a]);
            }
        }
        q.drain();
        for (int n = 0; n <= 1; n++) {
            for (int a = 0; a < 7; a++) {
                c.due("after drain: memory(" + a + ", " + n + ")", q.memory(a, n), want[n + 1][a]);
            }
        }
        c.due("after drain: memory(0, 2)", q.memory(0, 2), LoadStoreQueue.BAD_ARGUMENT);
    }

    private static void eightInTheBuffer(Checks c) {
        LoadStoreQueue q = new LoadStoreQueue(4, 8, 64);
        for (int i = 0; i < 8; i++) {
            Fixtures.store(q, 1, 4, 60 - i % 2, -1 - i);
            q.commit();
        }
        c.due("memory(60, 0)", q.memory(60, 0), 181);
        c.due("memory(63, 0)", q.memory(63, 0), 190);
        for (int n = 1; n <= 8; n++) {
            int last = n - 1;
            c.due("memory(59, " + n + ")", q.memory(59, n), n == 1 ? 178 : 255 - (last % 2 == 1 ? last : last - 1));
            c.due("memory(60, " + n + ")", q.memory(60, n), last % 2 == 0 ? 255 - last : 255);
            c.due("memory(63, " + n + ")", q.memory(63, n), 255);
        }
        c.due("memory(63, 9)", q.memory(63, 9), LoadStoreQueue.BAD_ARGUMENT);
    }

    private static void windowHasNoPart(Checks c) {
        LoadStoreQueue q = new LoadStoreQueue(4, 2, 8);
        Fixtures.store(q, 1, 1, 3, 99);
        c.due("memory(3, 0)", q.memory(3, 0), 10);
        c.due("memory(3, 1)", q.memory(3, 1), LoadStoreQueue.BAD_ARGUMENT);
        q.commit();
        Fixtures.store(q, 1, 1, 3, 98);
        c.due("committed", q.memory(3, 1), 99);
        c.due("not drained", q.memory(3, 0), 10);
    }
}
