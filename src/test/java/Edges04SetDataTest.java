/** The sentences of Promise 4, each with a test of its own. */
public final class Edges04SetDataTest {
    public static void main(String[] args) {
        Sentences s = new Sentences();
        s.holds("Every int is allowed as data;", Edges04SetDataTest::everyInt);
        s.holds("only the low size bytes of it count.", Edges04SetDataTest::lowBytes);
        s.holds("`NO_OP` if no such position.", Edges04SetDataTest::noSuchPosition);
        s.holds("`BAD_KIND` if the operation is a load.", Edges04SetDataTest::ofALoad);
        s.holds("`ALREADY` if its data are known.", Edges04SetDataTest::already);
        s.holds("Otherwise the data become known and the answer is `OK`.", Edges04SetDataTest::becomeKnown);
        s.holds("The address of the store need not be known.", Edges04SetDataTest::withoutAddress);
        s.holds("Nothing else changes: no load is executed or sent back, no pair is remembered, and positions,"
                + " buffer and memory stay as they are.", Edges04SetDataTest::nothingElseChanges);
        s.end();
    }

    private static void everyInt(Checks c) {
        int[] data = {Integer.MIN_VALUE, Integer.MIN_VALUE + 1, -65536, -11, -10, -9, -1, 0, 1, 65535, 65536,
            Integer.MAX_VALUE - 1, Integer.MAX_VALUE};
        for (int d : data) {
            LoadStoreQueue q = new LoadStoreQueue(4, 1, 8);
            Fixtures.bareStore(q, 1, 4);
            c.due("setData(0, " + d + ")", q.setData(0, d), LoadStoreQueue.OK);
            c.due("value(0) of " + d, q.value(0), d & 0xFFFFFFFFL);
        }
    }

    private static void lowBytes(Checks c) {
        int[] data = {0x12345678, 0x89ABCDEF, 0x100, 0x10000, -1, 0xFFFFFF00, 0xFFFF0000};
        long[] inOne = {0x78, 0xEF, 0, 0, 0xFF, 0, 0};
        long[] inTwo = {0x5678, 0xCDEF, 0x100, 0, 0xFFFF, 0xFF00, 0};
        for (int i = 0; i < data.length; i++) {
            LoadStoreQueue q = new LoadStoreQueue(8, 2, 8);
            Fixtures.store(q, 1, 1, 1, data[i]);
            Fixtures.store(q, 1, 2, 4, data[i]);
            c.due("one byte of " + data[i], q.value(0), inOne[i]);
            c.due("two bytes of " + data[i], q.value(1), inTwo[i]);
            Fixtures.executedLoad(q, 2, 4, 1);
            c.due("a load over the one byte", q.value(2), inOne[i] + 0x0A0700L + (inTwo[i] & 0xFF) * 0x1000000L);
            q.commit();
            q.commit();
            c.due("the cell after one byte", q.memory(2, 2), 7);
            c.due("the cell after two bytes", q.memory(6, 2), 19);
        }
    }

    private static void noSuchPosition(Checks c) {
        LoadStoreQueue q = Fixtures.busy(c);
        for (int p : Fixtures.noPositions(q)) {
            c.changesNothing(q, "setData(" + p + ", 0)", () -> q.setData(p, 0), LoadStoreQueue.NO_OP);
        }
        q.discard(5);
        c.changesNothing(q, "where a store was", () -> q.setData(5, 0), LoadStoreQueue.NO_OP);
    }

    private static void ofALoad(Checks c) {
        LoadStoreQueue q = Fixtures.busy(c);
        for (int p : new int[] {0, 3, 4, 7, 8, 9}) {
            c.changesNothing(q, "load " + p, () -> q.setData(p, 1), LoadStoreQueue.BAD_KIND);
        }
    }

    private static void already(Checks c) {
        LoadStoreQueue q = Fixtures.busy(c);
        for (int p : new int[] {1, 6}) {
            c.changesNothing(q, "other data", () -> q.setData(p, 0), LoadStoreQueue.ALREADY);
            c.changesNothing(q, "the same data", () -> q.setData(p, (int) q.value(p)), LoadStoreQueue.ALREADY);
        }
        q.setData(5, 0);
        c.changesNothing(q, "data 0 are known, too", () -> q.setData(5, 1), LoadStoreQueue.ALREADY);
    }

    private static void becomeKnown(Checks c) {
        for (int data : new int[] {0, 1, 255}) {
            LoadStoreQueue q = new LoadStoreQueue(4, 1, 8);
            Fixtures.bareStore(q, 3, 1);
            q.setAddress(0, 7);
            c.due("setData", q.setData(0, data), LoadStoreQueue.OK);
            c.due("describe(0)", q.describe(0), 3 * 32 + 7);
            c.due("value(0)", q.value(0), data);
            c.due("commit()", q.commit(), LoadStoreQueue.STORE_DONE);
            c.due("memory(7, 1)", q.memory(7, 1), data);
        }
    }

    private static void withoutAddress(Checks c) {
        LoadStoreQueue q = new LoadStoreQueue(4, 1, 8);
        Fixtures.bareStore(q, 3, 2);
        c.due("setData(0, 0x1234)", q.setData(0, 0x1234), LoadStoreQueue.OK);
        c.due("value(0)", q.value(0), 0x1234);
        c.due("address(0)", q.address(0), LoadStoreQueue.NO_ADDRESS);
        c.due("the address comes later", q.setAddress(0, 6), 0);
        c.due("value(0)", q.value(0), 0x1234);
    }

    private static void nothingElseChanges(Checks c) {
        // Loads that only waited for these data are not executed by the call.
        LoadStoreQueue q = Fixtures.busy(c);
        String rest = Checks.window(q, 0, 2) + Checks.window(q, 3, 10) + Checks.memory(q) + Checks.sets(q);
        c.due("setData(2, -1)", q.setData(2, -1), LoadStoreQueue.OK);
        c.due("address(2)", q.address(2), 8);
        c.same("the rest", Checks.window(q, 0, 2) + Checks.window(q, 3, 10) + Checks.memory(q) + Checks.sets(q), rest);
        c.due("count()", q.count(), 10);
        // A younger executed load stays executed when data come to a store without address.
        rest = Checks.window(q, 0, 5) + Checks.window(q, 6, 10) + Checks.memory(q) + Checks.sets(q);
        c.due("setData(5, -1)", q.setData(5, -1), LoadStoreQueue.OK);
        c.due("address(5)", q.address(5), LoadStoreQueue.NO_ADDRESS);
        c.same("the rest", Checks.window(q, 0, 5) + Checks.window(q, 6, 10) + Checks.memory(q) + Checks.sets(q), rest);
        // Nor when the store has its address and is older than an executed load beside it.
        LoadStoreQueue beside = new LoadStoreQueue(4, 1, 8);
        Fixtures.bareStore(beside, 1, 1);
        beside.setAddress(0, 3);
        Fixtures.executedLoad(beside, 2, 1, 4);
        c.due("setData(0, 5)", beside.setData(0, 5), LoadStoreQueue.OK);
        c.due("value(1)", beside.value(1), 13);
        c.due("no pair", beside.sameSet(1, 2) + beside.sameSet(1, 1), 0);
        c.due("memory(3, 0)", beside.memory(3, 0), 10);
    }
}
