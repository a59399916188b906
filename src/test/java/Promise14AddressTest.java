/** Promise 14: address. */
public final class Promise14AddressTest {
    public static void main(String[] args) {
        Checks c = new Checks();
        LoadStoreQueue empty = new LoadStoreQueue(4, 1, 8);
        for (int p : new int[] {-1, 0, 1, 32, Integer.MIN_VALUE, Integer.MAX_VALUE}) {
            c.changesNothing(empty, "empty: address(" + p + ")", () -> empty.address(p), LoadStoreQueue.NO_OP);
        }
        LoadStoreQueue busy = Fixtures.busy();
        int unknown = LoadStoreQueue.NO_ADDRESS;
        int[] want = {3, unknown, 8, 8, 20, unknown, 12, 10, unknown, 12};
        for (int i = 0; i < want.length; i++) {
            int p = i;
            c.changesNothing(busy, "busy: address(" + p + ")", () -> busy.address(p), want[p]);
        }
        for (int p : new int[] {-1, 10, 12, 32, Integer.MIN_VALUE, Integer.MAX_VALUE}) {
            c.changesNothing(busy, "busy: address(" + p + ")", () -> busy.address(p), LoadStoreQueue.NO_OP);
        }
        LoadStoreQueue q = new LoadStoreQueue(4, 1, 64);
        q.enter(0, 1, 1);
        q.enter(1, 1, 1);
        q.setAddress(0, 0);
        q.setAddress(1, 63);
        c.due("the least", q.address(0), 0);
        c.due("the greatest", q.address(1), 63);
        q.execute(0);
        c.due("of an executed load", q.address(0), 0);
        q.commit();
        c.due("one down after commit", q.address(0), 63);
        c.due("no more", q.address(1), LoadStoreQueue.NO_OP);
        c.end();
    }
}
