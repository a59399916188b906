/** The sentences of Promise 14, each with a test of its own. */
public final class Edges14AddressTest {
    public static void main(String[] args) {
        Sentences s = new Sentences();
        s.holds("`address(p)` answers `NO_OP` if no such position;", Edges14AddressTest::noSuchPosition);
        s.holds("`NO_ADDRESS` if the address of the operation is unknown;", Edges14AddressTest::unknown);
        s.holds("otherwise the address.", Edges14AddressTest::known);
        s.holds("The address of a load that was sent back is still known.", Edges14AddressTest::sentBack);
        s.holds("The call changes nothing.", Edges14AddressTest::changesNothing);
        s.end();
    }

    private static void noSuchPosition(Checks c) {
        LoadStoreQueue empty = new LoadStoreQueue(4, 1, 8);
        LoadStoreQueue busy = Fixtures.busy(c);
        for (LoadStoreQueue q : new LoadStoreQueue[] {empty, busy}) {
            for (int p : Fixtures.noPositions(q)) {
                c.changesNothing(q, "address(" + p + ")", () -> q.address(p), LoadStoreQueue.NO_OP);
            }
        }
        busy.discard(9);
        c.due("where a known address was", busy.address(9), LoadStoreQueue.NO_OP);
    }

    private static void unknown(Checks c) {
        LoadStoreQueue q = new LoadStoreQueue(4, 1, 8);
        Fixtures.bareLoad(q, 1, 1);
        Fixtures.bareStore(q, 1, 1);
        c.due("a load", q.address(0), LoadStoreQueue.NO_ADDRESS);
        c.due("a store", q.address(1), LoadStoreQueue.NO_ADDRESS);
        q.setData(1, 3);
        c.due("a store with data", q.address(1), LoadStoreQueue.NO_ADDRESS);
        q.setAddress(0, 8);
        c.due("after a refused address", q.address(0), LoadStoreQueue.NO_ADDRESS);
    }

    private static void known(Checks c) {
        int[] sizes = {1, 2, 4};
        for (int size : sizes) {
            for (int kind = 0; kind <= 1; kind++) {
                for (int x = 0; x <= 64 - size; x++) {
                    LoadStoreQueue q = new LoadStoreQueue(4, 1, 64);
                    q.enter(kind, 1, size);
                    q.setAddress(0, x);
                    c.due("address(0)", q.address(0), x);
                }
            }
        }
    }

    private static void sentBack(Checks c) {
        for (int x : new int[] {0, 5, 7}) {
            LoadStoreQueue q = new LoadStoreQueue(4, 1, 8);
            Fixtures.bareStore(q, 1, 1);
            Fixtures.executedLoad(q, 2, 1, x);
            c.due("sent back", q.setAddress(0, x), 1);
            c.due("address(1)", q.address(1), x);
            q.setData(0, 0);
            c.due("no address needs be set", q.execute(1), LoadStoreQueue.OK);
        }
    }

    private static void changesNothing(Checks c) {
        LoadStoreQueue q = Fixtures.busy(c);
        int unknown = LoadStoreQueue.NO_ADDRESS;
        int[] want = {3, unknown, 8, 8, 20, unknown, 12, 10, unknown, 12};
        for (int i = 0; i < want.length; i++) {
            int p = i;
            c.changesNothing(q, "address(" + p + ")", () -> q.address(p), want[p]);
        }
    }
}
