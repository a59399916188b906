/** The sentences of Promise 15, each with a test of its own. */
public final class Edges15ValueTest {
    private static final int[] SIZES = {1, 2, 4};

    public static void main(String[] args) {
        Sentences s = new Sentences();
        s.holds("`value(p)` answers `NO_OP` if no such position;", Edges15ValueTest::noSuchPosition);
        s.holds("`NOT_READY` for a load not executed (also one that was sent back and not executed again)",
                Edges15ValueTest::loadNotReady);
        s.holds("or a store with unknown data.", Edges15ValueTest::storeNotReady);
        s.holds("Otherwise it answers the value of the load,", Edges15ValueTest::ofALoad);
        s.holds("or the low size bytes of the store's data;", Edges15ValueTest::ofAStore);
        s.holds("both unsigned, 0 .. 4294967295.", Edges15ValueTest::unsigned);
        s.holds("For a store it does not matter whether its address is known.", Edges15ValueTest::withoutAddress);
        s.holds("The call changes nothing.", Edges15ValueTest::changesNothing);
        s.end();
    }

    private static void noSuchPosition(Checks c) {
        LoadStoreQueue empty = new LoadStoreQueue(4, 1, 8);
        LoadStoreQueue busy = Fixtures.busy(c);
        for (LoadStoreQueue q : new LoadStoreQueue[] {empty, busy}) {
            for (int p : Fixtures.noPositions(q)) {
                c.changesNothing(q, "value(" + p + ")", () -> q.value(p), LoadStoreQueue.NO_OP);
            }
        }
        busy.discard(9);
        c.due("where an executed load was", busy.value(9), LoadStoreQueue.NO_OP);
    }

    private static void loadNotReady(Checks c) {
        LoadStoreQueue q = new LoadStoreQueue(4, 1, 8);
        Fixtures.bareStore(q, 1, 1);
        Fixtures.bareLoad(q, 2, 1);
        c.due("no address", q.value(1), LoadStoreQueue.NOT_READY);
        q.setAddress(1, 3);
        c.due("not executed", q.value(1), LoadStoreQueue.NOT_READY);
        q.execute(1);
        c.due("executed", q.value(1), 10);
        q.setAddress(0, 3);
        c.due("sent back", q.value(1), LoadStoreQueue.NOT_READY);
        q.execute(1);
        c.due("sent back and refused", q.value(1), LoadStoreQueue.NOT_READY);
        q.setData(0, 0);
        c.due("sent back, could be executed", q.value(1), LoadStoreQueue.NOT_READY);
        q.execute(1);
        c.due("executed again", q.value(1), 0);
    }

    private static void storeNotReady(Checks c) {
        LoadStoreQueue q = new LoadStoreQueue(4, 1, 8);
        Fixtures.bareStore(q, 1, 1);
        c.due("nothing known", q.value(0), LoadStoreQueue.NOT_READY);
        q.setAddress(0, 3);
        c.due("the address known", q.value(0), LoadStoreQueue.NOT_READY);
        q.setData(0, 0);
        c.due("both known", q.value(0), 0);
    }

    private static void ofALoad(Checks c) {
        LoadStoreQueue q = new LoadStoreQueue(8, 1, 16);
        Fixtures.store(q, 1, 2, 4, 0x2211);
        Fixtures.executedLoad(q, 2, 1, 4);
        Fixtures.executedLoad(q, 2, 2, 4);
        Fixtures.executedLoad(q, 2, 4, 4);
        Fixtures.store(q, 1, 4, 4, -1);
        c.due("one byte", q.value(1), 0x11);
        c.due("two bytes", q.value(2), 0x2211);
        c.due("four bytes", q.value(3), 0x16132211L);
        q.commit();
        q.drain();
        c.due("after its store has left", q.value(2), 0x16132211L);
    }

    private static void ofAStore(Checks c) {
        int data = 0x89ABCDEF;
        long[] low = {0xEF, 0xCDEF, 0x89ABCDEFL};
        for (int s = 0; s < 3; s++) {
            LoadStoreQueue q = new LoadStoreQueue(4, 1, 8);
            Fixtures.store(q, 1, SIZES[s], 2, data);
            c.due("value of a store of " + SIZES[s], q.value(0), low[s]);
        }
    }

    // -1, -9 and so on as data must not come out as the answers of these numbers.
    private static void unsigned(Checks c) {
        for (int data : new int[] {0, -1, -9, Integer.MIN_VALUE, Integer.MAX_VALUE}) {
            for (int size : SIZES) {
                LoadStoreQueue q = new LoadStoreQueue(4, 1, 8);
                Fixtures.store(q, 1, size, 2, data);
                Fixtures.executedLoad(q, 2, size, 2);
                long want = data & 0xFFFFFFFFL >>> 32 - 8 * size;
                c.due("store of " + size + " with " + data, q.value(0), want);
                c.due("load of " + size + " with " + data, q.value(1), want);
            }
        }
        LoadStoreQueue q = new LoadStoreQueue(4, 1, 8);
        Fixtures.store(q, 1, 4, 2, -1);
        Fixtures.executedLoad(q, 2, 4, 2);
        c.due("the most of a store", q.value(0), 4294967295L);
        c.due("the most of a load", q.value(1), 4294967295L);
    }

    private static void withoutAddress(Checks c) {
        for (int size : SIZES) {
            LoadStoreQueue q = new LoadStoreQueue(4, 1, 8);
            Fixtures.bareStore(q, 1, size);
            q.setData(0, 77);
            c.due("without address", q.value(0), 77);
            q.setAddress(0, 0);
            c.due("with address", q.value(0), 77);
        }
    }

    private static void changesNothing(Checks c) {
        LoadStoreQueue q = Fixtures.busy(c);
        long not = LoadStoreQueue.NOT_READY;
        long[] want = {0x1377EF22L, 0x1234, not, not, 61, not, 0xCAFE, not, not, 0xCAFE};
        for (int i = 0; i < want.length; i++) {
            int p = i;
            c.changesNothing(q, "value(" + p + ")", () -> q.value(p), want[p]);
        }
    }
}
