/** Promise 15: value. */
public final class Promise15ValueTest {
    public static void main(String[] args) {
        Checks c = new Checks();
        LoadStoreQueue empty = new LoadStoreQueue(4, 1, 8);
        for (int p : new int[] {-1, 0, 1, 32, Integer.MIN_VALUE, Integer.MAX_VALUE}) {
            c.changesNothing(empty, "empty: value(" + p + ")", () -> empty.value(p), LoadStoreQueue.NO_OP);
        }
        LoadStoreQueue busy = Fixtures.busy();
        long not = LoadStoreQueue.NOT_READY;
        long[] want = {0x1377EF22L, 0x1234, not, not, 61, not, 0xCAFE, not, not, 0xCAFE};
        for (int i = 0; i < want.length; i++) {
            int p = i;
            c.changesNothing(busy, "busy: value(" + p + ")", () -> busy.value(p), want[p]);
        }
        for (int p : new int[] {-1, 10, 12, 32, Integer.MIN_VALUE, Integer.MAX_VALUE}) {
            c.changesNothing(busy, "busy: value(" + p + ")", () -> busy.value(p), LoadStoreQueue.NO_OP);
        }
        unsigned(c, 1, 255L);
        unsigned(c, 2, 65535L);
        unsigned(c, 4, 4294967295L);
        executedLoadsKeepTheirValues(c);
        c.end();
    }

    private static void unsigned(Checks c, int size, long want) {
        LoadStoreQueue q = new LoadStoreQueue(4, 1, 8);
        q.enter(1, 1, size);
        q.setData(0, -1);
        c.due("a store without address", q.value(0), want);
        q.setAddress(0, 0);
        c.due("a store with address", q.value(0), want);
        Fixtures.load(q, 1, size, 0);
        c.due("a load not executed", q.value(1), LoadStoreQueue.NOT_READY);
        q.execute(1);
        c.due("a load", q.value(1), want);
        q.commit();
        c.due("after the commit", q.value(0), want);
    }

    private static void executedLoadsKeepTheirValues(Checks c) {
        LoadStoreQueue q = new LoadStoreQueue(8, 2, 8);
        Fixtures.store(q, 1, 1, 0, 70);
        Fixtures.load(q, 2, 1, 0);
        Fixtures.store(q, 3, 1, 0, 80);
        q.execute(1);
        q.commit();
        c.due("after commit of its source", q.value(0), 70);
        q.drain();
        c.due("after drain of its source", q.value(0), 70);
        q.clearSets();
        c.due("after clearSets", q.value(0), 70);
        q.discard(1);
        c.due("after discard", q.value(0), 70);
    }
}
