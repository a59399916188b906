/** Promise 4: setData. */
public final class Promise04SetDataTest {
    public static void main(String[] args) {
        Checks c = new Checks();
        refusals(c);
        lowBytesCount(c);
        addressNeedNotBeKnown(c);
        nothingElseChanges(c);
        c.end();
    }

    private static void refusals(Checks c) {
        LoadStoreQueue empty = new LoadStoreQueue(4, 1, 8);
        c.changesNothing(empty, "setData(0, 0) in an empty window", () -> empty.setData(0, 0), LoadStoreQueue.NO_OP);
        LoadStoreQueue q = Fixtures.busy();
        for (int p : new int[] {-1, 10, 12, 32, Integer.MIN_VALUE, Integer.MAX_VALUE}) {
            c.changesNothing(q, "setData at " + p, () -> q.setData(p, 1), LoadStoreQueue.NO_OP);
        }
        for (int p : new int[] {0, 3, 4, 7, 8, 9}) {
            c.changesNothing(q, "setData of load " + p, () -> q.setData(p, 1), LoadStoreQueue.BAD_KIND);
        }
        for (int p : new int[] {1, 6}) {
            c.changesNothing(q, "setData again at " + p, () -> q.setData(p, 1), LoadStoreQueue.ALREADY);
        }
    }

    private static void lowBytesCount(Checks c) {
        int[] data = {0, 1, -1, 255, 256, 65535, 65536, 0x89ABCDEF, Integer.MIN_VALUE, Integer.MAX_VALUE};
        for (int d : data) {
            for (int size = 1; size <= 4; size *= 2) {
                LoadStoreQueue q = new LoadStoreQueue(4, 1, 16);
                q.enter(1, 1, size);
                c.due("setData(0, " + d + ")", q.setData(0, d), LoadStoreQueue.OK);
                long low = size == 4 ? Integer.toUnsignedLong(d) : d & ((1 << 8 * size) - 1);
                c.due("value of " + d + " in " + size, q.value(0), low);
                q.setAddress(0, 3);
                q.commit();
                for (int i = 0; i < 8; i++) {
                    long want = i >= 3 && i < 3 + size ? low >> 8 * (i - 3) & 255 : 3 * i + 1;
                    c.due("memory(" + i + ", 1) of " + d + " in " + size, q.memory(i, 1), want);
                }
            }
        }
    }

    private static void addressNeedNotBeKnown(Checks c) {
        LoadStoreQueue q = new LoadStoreQueue(4, 1, 16);
        q.enter(1, 1, 2);
        q.enter(1, 1, 2);
        q.setAddress(1, 5);
        c.due("without address", q.setData(0, 7), LoadStoreQueue.OK);
        c.same("the store", Checks.operation(q, 0), "(45 -6 7)");
        c.due("with address", q.setData(1, 8), LoadStoreQueue.OK);
        c.same("the store", Checks.operation(q, 1), "(47 5 8)");
    }

    private static void nothingElseChanges(Checks c) {
        LoadStoreQueue q = Fixtures.busy();
        String before = Checks.window(q, 0, 2) + Checks.window(q, 3, 10) + Checks.memory(q) + Checks.sets(q);
        c.due("setData(2, 5)", q.setData(2, 5), LoadStoreQueue.OK);
        c.same("the store", Checks.operation(q, 2), "(215 8 5)");
        c.same("the rest", Checks.window(q, 0, 2) + Checks.window(q, 3, 10) + Checks.memory(q) + Checks.sets(q),
                before);
        before = Checks.window(q, 0, 5) + Checks.window(q, 6, 10) + Checks.memory(q) + Checks.sets(q);
        c.due("setData(5, -1)", q.setData(5, -1), LoadStoreQueue.OK);
        c.same("the store", Checks.operation(q, 5), "(293 -6 255)");
        c.same("the rest", Checks.window(q, 0, 5) + Checks.window(q, 6, 10) + Checks.memory(q) + Checks.sets(q),
                before);
    }
}
