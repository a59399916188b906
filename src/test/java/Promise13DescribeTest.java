/** Promise 13: describe. */
public final class Promise13DescribeTest {
    public static void main(String[] args) {
        Checks c = new Checks();
        LoadStoreQueue empty = new LoadStoreQueue(4, 1, 8);
        for (int p : new int[] {-1, 0, 1, 31, 32, Integer.MIN_VALUE, Integer.MAX_VALUE}) {
            c.changesNothing(empty, "empty: describe(" + p + ")", () -> empty.describe(p), LoadStoreQueue.NO_OP);
        }
        for (int pc = 0; pc <= 15; pc++) {
            for (int s = 0; s <= 2; s++) {
                ofStore(c, pc, s);
                ofLoad(c, pc, s);
            }
        }
        LoadStoreQueue busy = Fixtures.busy();
        int[] want = {147, 173, 214, 234, 259, 292, 335, 370, 392, 427};
        for (int i = 0; i < want.length; i++) {
            int p = i;
            c.changesNothing(busy, "busy: describe(" + p + ")", () -> busy.describe(p), want[p]);
        }
        c.changesNothing(busy, "busy: describe(-1)", () -> busy.describe(-1), LoadStoreQueue.NO_OP);
        c.changesNothing(busy, "busy: describe(10)", () -> busy.describe(10), LoadStoreQueue.NO_OP);
        c.end();
    }

    private static void ofStore(Checks c, int pc, int s) {
        LoadStoreQueue q = new LoadStoreQueue(4, 1, 8);
        int base = pc * 32 + s * 8 + 4;
        q.enter(1, pc, 1 << s);
        q.enter(1, pc, 1 << s);
        c.due("a new store", q.describe(0), base);
        q.setAddress(0, 0);
        c.due("with address", q.describe(0), base + 2);
        q.setData(0, 0);
        c.due("with both", q.describe(0), base + 3);
        c.due("the other store", q.describe(1), base);
        q.setData(1, 0);
        c.due("with data", q.describe(1), base + 1);
        c.due("no third", q.describe(2), LoadStoreQueue.NO_OP);
    }

    private static void ofLoad(Checks c, int pc, int s) {
        LoadStoreQueue q = new LoadStoreQueue(4, 1, 8);
        int base = pc * 32 + s * 8;
        q.enter(1, 0, 1);
        q.enter(0, pc, 1 << s);
        c.due("a new load", q.describe(1), base);
        q.setAddress(1, 0);
        c.due("with address", q.describe(1), base + 2);
        q.execute(1);
        c.due("executed", q.describe(1), base + 3);
        q.setAddress(0, 0);
        c.due("sent back", q.describe(1), base + 2);
    }
}
