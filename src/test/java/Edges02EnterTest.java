/** The sentences of Promise 2, each with a test of its own. */
public final class Edges02EnterTest {
    public static void main(String[] args) {
        Sentences s = new Sentences();
        s.holds("`enter(kind, pc, size)` enters a new youngest operation.", Edges02EnterTest::newYoungest);
        s.holds("`BAD_KIND` if kind is neither `LOAD` nor `STORE`.", Edges02EnterTest::badKind);
        s.holds("`BAD_ARGUMENT` if pc < 0 or pc > 15,", Edges02EnterTest::badPc);
        s.holds("or size is not 1, 2 or 4.", Edges02EnterTest::badSize);
        s.holds("`FULL` if the window holds `windowSize` operations.", Edges02EnterTest::full);
        s.holds("Otherwise the operation is added at the young end and its position is answered, which is `count()`"
                + " before the call.", Edges02EnterTest::positionIsCount);
        s.holds("Its address is unknown; a store has unknown data, a load is not executed.",
                Edges02EnterTest::nothingIsKnown);
        s.holds("The other operations and their positions, the buffer, memory and the remembered pairs do not"
                + " change.", Edges02EnterTest::nothingElseChanges);
        s.end();
    }

    private static void newYoungest(Checks c) {
        LoadStoreQueue q = new LoadStoreQueue(8, 1, 16);
        Fixtures.store(q, 1, 1, 5, 50);
        Fixtures.load(q, 2, 1, 5);
        Fixtures.store(q, 3, 1, 5, 60);
        Fixtures.load(q, 4, 1, 5);
        q.executeReady();
        c.due("entered before the second store", q.value(1), 50);
        c.due("entered after it", q.value(3), 60);
    }

    private static void badKind(Checks c) {
        LoadStoreQueue q = new LoadStoreQueue(4, 1, 16);
        for (int kind : new int[] {Integer.MIN_VALUE, -2, -1, 2, 3, 4, 256, 257, Integer.MAX_VALUE}) {
            c.changesNothing(q, "kind " + kind, () -> q.enter(kind, 0, 1), LoadStoreQueue.BAD_KIND);
        }
        c.due("kind 0", q.enter(0, 0, 1), 0);
        c.due("kind 1", q.enter(1, 0, 1), 1);
    }

    private static void badPc(Checks c) {
        for (int kind = 0; kind <= 1; kind++) {
            LoadStoreQueue q = new LoadStoreQueue(4, 1, 16);
            int k = kind;
            for (int pc : new int[] {Integer.MIN_VALUE, -16, -1, 16, 17, 32, 256, Integer.MAX_VALUE}) {
                c.changesNothing(q, "pc " + pc, () -> q.enter(k, pc, 2), LoadStoreQueue.BAD_ARGUMENT);
            }
            c.due("pc 0", q.enter(k, 0, 2), 0);
            c.due("pc 15", q.enter(k, 15, 2), 1);
        }
    }

    private static void badSize(Checks c) {
        for (int kind = 0; kind <= 1; kind++) {
            LoadStoreQueue q = new LoadStoreQueue(4, 1, 16);
            int k = kind;
            for (int size : new int[] {Integer.MIN_VALUE, -4, -2, -1, 0, 3, 5, 6, 7, 8, 257, Integer.MAX_VALUE}) {
                c.changesNothing(q, "size " + size, () -> q.enter(k, 0, size), LoadStoreQueue.BAD_ARGUMENT);
            }
            c.due("size 1", q.enter(k, 0, 1), 0);
            c.due("size 2", q.enter(k, 0, 2), 1);
            c.due("size 4", q.enter(k, 0, 4), 2);
        }
    }

    private static void full(Checks c) {
        for (int size = 4; size <= 32; size++) {
            LoadStoreQueue q = new LoadStoreQueue(size, 1, 64);
            for (int p = 0; p < size; p++) {
                c.due("enter " + p + " of " + size, Fixtures.executedLoad(q, 0, 1, 0), p);
            }
            c.changesNothing(q, "a load too many", () -> q.enter(0, 0, 1), LoadStoreQueue.FULL);
            c.changesNothing(q, "a store too many", () -> q.enter(1, 0, 1), LoadStoreQueue.FULL);
            q.commit();
            c.due("room after commit", q.enter(1, 0, 1), size - 1);
            c.due("full again", q.enter(1, 0, 1), LoadStoreQueue.FULL);
            q.discard(size - 1);
            c.due("room after discard", q.enter(0, 0, 1), size - 1);
            c.due("full once more", q.enter(0, 0, 1), LoadStoreQueue.FULL);
        }
    }

    private static void positionIsCount(Checks c) {
        LoadStoreQueue q = new LoadStoreQueue(32, 8, 64);
        for (int i = 0; i < 200; i++) {
            int before = q.count();
            c.due("enter", q.enter(0, i % 16, 1 << i % 3), before);
            c.due("count()", q.count(), before + 1);
            c.due("at that position", q.describe(before), i % 16 * 32 + i % 3 * 8);
            q.setAddress(before, i % 60);
            q.execute(before);
            if (i % 3 == 0) {
                q.commit();
            }
            if (q.count() == 32) {
                q.discard(7);
            }
        }
    }

    // The places of operations that knew everything are taken by new ones, after discard and after commit.
    private static void nothingIsKnown(Checks c) {
        for (int kind = 0; kind <= 1; kind++) {
            LoadStoreQueue q = new LoadStoreQueue(4, 4, 16);
            for (int i = 0; i < 4; i++) {
                Fixtures.store(q, i, 4, i, -1);
            }
            q.discard(2);
            q.commit();
            q.commit();
            Fixtures.executedLoad(q, 1, 4, 0);
            Fixtures.executedLoad(q, 1, 4, 0);
            q.commit();
            q.discard(0);
            for (int p = 0; p < 4; p++) {
                q.enter(kind, 9, 2);
                c.due("describe(" + p + ")", q.describe(p), 9 * 32 + 8 + kind * 4);
                c.due("address(" + p + ")", q.address(p), LoadStoreQueue.NO_ADDRESS);
                c.due("value(" + p + ")", q.value(p), LoadStoreQueue.NOT_READY);
                c.due("an address can be set", q.setAddress(p, 8), 0);
            }
            c.due("commit()", q.commit(), LoadStoreQueue.NOT_READY);
            c.due("executeReady()", q.executeReady(), kind == 0 ? 4 : 0);
            c.due("setData(0, 1)", q.setData(0, 1), kind == 0 ? LoadStoreQueue.BAD_KIND : LoadStoreQueue.OK);
        }
    }

    private static void nothingElseChanges(Checks c) {
        for (int kind = 0; kind <= 1; kind++) {
            LoadStoreQueue q = Fixtures.busy(c);
            String window = Checks.window(q, 0, 10);
            String memory = Checks.memory(q);
            String sets = Checks.sets(q);
            for (int p = 10; p < 12; p++) {
                c.due("enter", q.enter(kind, 6, 4), p);
                c.same("the other operations", Checks.window(q, 0, 10), window);
                c.same("buffer and memory", Checks.memory(q), memory);
                c.same("the sets", Checks.sets(q), sets);
            }
        }
    }
}
