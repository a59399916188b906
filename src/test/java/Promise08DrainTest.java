/** Promise 8: drain. */
public final class Promise08DrainTest {
    public static void main(String[] args) {
        Checks c = new Checks();
        empty(c);
        everyByte(c);
        order(c);
        theRestStays(c);
        goesOn(c);
        c.end();
    }

    private static void empty(Checks c) {
        LoadStoreQueue q = new LoadStoreQueue(4, 1, 16);
        c.changesNothing(q, "a new queue", q::drain, LoadStoreQueue.EMPTY);
        Fixtures.store(q, 1, 1, 0, 5);
        c.changesNothing(q, "a store in the window", q::drain, LoadStoreQueue.EMPTY);
        q.commit();
        c.due("a store in the buffer", q.drain(), LoadStoreQueue.OK);
        c.changesNothing(q, "and no more", q::drain, LoadStoreQueue.EMPTY);
    }

    private static void everyByte(Checks c) {
        int data = 0xF4E3D2C1;
        for (int size = 1; size <= 4; size *= 2) {
            for (int at = 0; at <= 12 - size; at++) {
                LoadStoreQueue q = new LoadStoreQueue(4, 1, 12);
                Fixtures.store(q, 1, size, at, data);
                q.commit();
                c.due("drain()", q.drain(), LoadStoreQueue.OK);
                c.due("pending()", q.pending(), 0);
                for (int a = 0; a < 12; a++) {
                    int want = a >= at && a < at + size ? data >> 8 * (a - at) & 255 : 3 * a + 1;
                    c.due("memory(" + a + ", 0) with " + size + " at " + at, q.memory(a, 0), want);
                }
            }
        }
    }

    private static void order(Checks c) {
        LoadStoreQueue q = new LoadStoreQueue(4, 8, 16);
        for (int i = 0; i < 8; i++) {
            Fixtures.store(q, 1, 2, i, 0x0101 * (100 + i));
            q.commit();
        }
        for (int done = 0; done < 8; done++) {
            String[] later = new String[9 - done];
            for (int n = 0; n < later.length; n++) {
                later[n] = Checks.memoryAfter(q, n);
            }
            c.due("drain()", q.drain(), LoadStoreQueue.OK);
            c.due("pending()", q.pending(), 7 - done);
            c.due("the lower byte", q.memory(done, 0), 100 + done);
            c.due("the higher byte", q.memory(done + 1, 0), 100 + done);
            c.due("the cell above", q.memory(done + 2, 0), 3 * (done + 2) + 1);
            for (int n = 1; n < later.length; n++) {
                c.same("after " + (n - 1) + " more", Checks.memoryAfter(q, n - 1), later[n]);
            }
        }
    }

    private static void theRestStays(Checks c) {
        LoadStoreQueue q = Fixtures.busy();
        String window = Checks.window(q);
        String sets = Checks.sets(q);
        for (int i = 0; i < 2; i++) {
            c.due("drain()", q.drain(), LoadStoreQueue.OK);
            c.same("the window", Checks.window(q), window);
            c.same("the sets", Checks.sets(q), sets);
        }
        c.due("memory(4, 0)", q.memory(4, 0), 0xEF);
        c.due("memory(5, 0)", q.memory(5, 0), 0x77);
    }

    private static void goesOn(Checks c) {
        LoadStoreQueue q = new LoadStoreQueue(4, 3, 16);
        for (int i = 0; i < 40; i++) {
            Fixtures.store(q, 1, 1, i % 5, i);
            c.due("commit " + i, q.commit(), LoadStoreQueue.STORE_DONE);
            if (i >= 2) {
                c.due("drain " + i, q.drain(), LoadStoreQueue.OK);
                c.due("what it wrote", q.memory((i - 2) % 5, 0), i - 2);
                c.due("what comes next", q.memory((i - 1) % 5, 1), i - 1);
            }
        }
    }
}
