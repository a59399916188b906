/** The sentences of Promise 13, each with a test of its own. */
public final class Edges13DescribeTest {
    private static final int[] SIZES = {1, 2, 4};

    public static void main(String[] args) {
        Sentences s = new Sentences();
        s.holds("`describe(p)` answers `NO_OP` if no such position;", Edges13DescribeTest::noSuchPosition);
        s.holds("otherwise pc\\*32 + s\\*8 + kind\\*4 + a\\*2 + r", Edges13DescribeTest::everyNumber);
        s.holds("s is 0, 1, 2 for size 1, 2, 4;", Edges13DescribeTest::size);
        s.holds("kind is 0 for `LOAD`, 1 for `STORE`;", Edges13DescribeTest::kind);
        s.holds("a is 1 if the address is known, else 0;", Edges13DescribeTest::address);
        s.holds("r is 1 for an executed load or a store with known data, else 0.", Edges13DescribeTest::ready);
        s.holds("It changes nothing.", Edges13DescribeTest::changesNothing);
        s.end();
    }

    private static void noSuchPosition(Checks c) {
        LoadStoreQueue empty = new LoadStoreQueue(4, 1, 8);
        LoadStoreQueue busy = Fixtures.busy(c);
        for (LoadStoreQueue q : new LoadStoreQueue[] {empty, busy}) {
            for (int p : Fixtures.noPositions(q)) {
                c.changesNothing(q, "describe(" + p + ")", () -> q.describe(p), LoadStoreQueue.NO_OP);
            }
        }
        busy.discard(9);
        c.due("where a load was", busy.describe(9), LoadStoreQueue.NO_OP);
        c.due("the youngest", busy.describe(8), 12 * 32 + 8);
    }

    private static void everyNumber(Checks c) {
        for (int pc = 0; pc < 16; pc++) {
            for (int s = 0; s < 3; s++) {
                for (int kind = 0; kind <= 1; kind++) {
                    for (int a = 0; a <= 1; a++) {
                        for (int r = 0; r <= 1; r++) {
                            // A load is executed only with its address.
                            if (kind == 1 || a == 1 || r == 0) {
                                LoadStoreQueue q = made(pc, s, kind, a, r);
                                c.due("describe", q.describe(0), pc * 32 + s * 8 + kind * 4 + a * 2 + r);
                            }
                        }
                    }
                }
            }
        }
    }

    private static LoadStoreQueue made(int pc, int s, int kind, int a, int r) {
        LoadStoreQueue q = new LoadStoreQueue(4, 1, 8);
        q.enter(kind, pc, SIZES[s]);
        if (a == 1) {
            q.setAddress(0, 0);
        }
        if (r == 1 && kind == 1) {
            q.setData(0, 0);
        }
        if (r == 1 && kind == 0) {
            q.execute(0);
        }
        return q;
    }

    private static void size(Checks c) {
        for (int s = 0; s < 3; s++) {
            LoadStoreQueue q = new LoadStoreQueue(4, 1, 8);
            q.enter(0, 0, SIZES[s]);
            q.enter(1, 0, SIZES[s]);
            c.due("s of a load of " + SIZES[s], q.describe(0) / 8 % 4, s);
            c.due("s of a store of " + SIZES[s], q.describe(1) / 8 % 4, s);
        }
    }

    private static void kind(Checks c) {
        LoadStoreQueue q = new LoadStoreQueue(4, 1, 8);
        q.enter(LoadStoreQueue.LOAD, 0, 1);
        q.enter(LoadStoreQueue.STORE, 0, 1);
        c.due("kind of a load", q.describe(0) / 4 % 2, 0);
        c.due("kind of a store", q.describe(1) / 4 % 2, 1);
    }

    private static void address(Checks c) {
        for (int kind = 0; kind <= 1; kind++) {
            for (int x : new int[] {0, 7}) {
                LoadStoreQueue q = new LoadStoreQueue(4, 1, 8);
                q.enter(kind, 0, 1);
                c.due("a before", q.describe(0) / 2 % 2, 0);
                q.setAddress(0, x);
                c.due("a with address " + x, q.describe(0) / 2 % 2, 1);
            }
        }
        LoadStoreQueue q = Fixtures.busy(c);
        c.due("a of a load sent back", q.describe(3) / 2 % 2, 1);
        c.due("a of a store with data alone", q.describe(1) / 2 % 2, 0);
    }

    private static void ready(Checks c) {
        LoadStoreQueue q = new LoadStoreQueue(4, 1, 8);
        Fixtures.bareStore(q, 0, 1);
        Fixtures.load(q, 0, 1, 0);
        c.due("r of a load with address", q.describe(1) % 2, 0);
        q.execute(1);
        c.due("r of an executed load", q.describe(1) % 2, 1);
        q.setAddress(0, 0);
        c.due("r of a load sent back", q.describe(1) % 2, 0);
        c.due("r of a store with address", q.describe(0) % 2, 0);
        q.setData(0, 0);
        c.due("r of a store with data 0", q.describe(0) % 2, 1);
        q.execute(1);
        c.due("r of a load with value 0", q.describe(1) % 2, 1);
    }

    private static void changesNothing(Checks c) {
        LoadStoreQueue q = Fixtures.busy(c);
        int[] want = {147, 173, 214, 234, 259, 292, 335, 370, 392, 427};
        for (int i = 0; i < want.length; i++) {
            int p = i;
            c.changesNothing(q, "describe(" + p + ")", () -> q.describe(p), want[p]);
        }
    }
}
