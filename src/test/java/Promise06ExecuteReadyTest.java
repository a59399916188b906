/** Promise 6: executeReady. */
public final class Promise06ExecuteReadyTest {
    public static void main(String[] args) {
        Checks c = new Checks();
        noneReady(c);
        someReady(c);
        likeExecuteInTurn(c);
        wholeWindow(c);
        c.end();
    }

    private static void noneReady(Checks c) {
        LoadStoreQueue empty = new LoadStoreQueue(4, 1, 8);
        c.changesNothing(empty, "an empty window", empty::executeReady, 0);
        LoadStoreQueue stores = new LoadStoreQueue(4, 1, 8);
        Fixtures.store(stores, 1, 1, 0, 1);
        stores.enter(1, 2, 2);
        stores.enter(0, 2, 2);
        c.changesNothing(stores, "stores and a load without address", stores::executeReady, 0);
        LoadStoreQueue busy = Fixtures.busy();
        c.changesNothing(busy, "the busy queue", busy::executeReady, 0);
    }

    private static void someReady(Checks c) {
        LoadStoreQueue q = Fixtures.busy();
        q.setAddress(8, 0);
        q.setData(2, 0x0A0B0C0D);
        c.due("executeReady()", q.executeReady(), 3);
        c.due("load 3", q.value(3), 0x0C0D);
        c.due("load 7", q.value(7), 0xCAFE0A0BL);
        c.due("load 8", q.value(8), 0x0401);
        c.changesNothing(q, "once more", q::executeReady, 0);
    }

    private static void likeExecuteInTurn(Checks c) {
        LoadStoreQueue q = mixed();
        LoadStoreQueue one = mixed();
        String untouched = Checks.memory(q) + Checks.sets(q);
        int ok = 0;
        for (int p = 0; p < one.count(); p++) {
            if (one.execute(p) == LoadStoreQueue.OK) {
                ok++;
            }
        }
        c.due("executeReady()", q.executeReady(), ok);
        c.due("that many", ok, 2);
        c.same("the state", Checks.all(q), Checks.all(one));
        c.same("buffer, memory and sets", Checks.memory(q) + Checks.sets(q), untouched);
        c.due("the predicted load", q.value(3), LoadStoreQueue.NOT_READY);
        c.due("the load without data", q.value(4), LoadStoreQueue.NOT_READY);
        c.due("the load executed before", q.value(5), 0x0401);
        c.due("ready 0", q.value(0), 1);
        c.due("ready 6", q.value(6), 0x1613100DL);
    }

    private static LoadStoreQueue mixed() {
        LoadStoreQueue q = new LoadStoreQueue(8, 1, 16);
        Fixtures.pair(q, 2, 1);
        Fixtures.load(q, 3, 1, 0);
        q.enter(1, 1, 1);
        q.enter(1, 4, 1);
        q.setAddress(2, 9);
        Fixtures.load(q, 2, 1, 3);
        Fixtures.load(q, 5, 2, 8);
        Fixtures.load(q, 5, 2, 0);
        q.execute(5);
        Fixtures.load(q, 5, 4, 4);
        q.enter(0, 5, 4);
        return q;
    }

    private static void wholeWindow(Checks c) {
        LoadStoreQueue q = new LoadStoreQueue(32, 1, 64);
        for (int i = 0; i < 32; i++) {
            Fixtures.load(q, i % 16, 1, i);
        }
        c.due("32 loads", q.executeReady(), 32);
        for (int i = 0; i < 32; i++) {
            c.due("value " + i, q.value(i), 3 * i + 1);
        }
    }
}
