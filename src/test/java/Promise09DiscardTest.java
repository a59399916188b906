/** Promise 9: discard. */
public final class Promise09DiscardTest {
    public static void main(String[] args) {
        Checks c = new Checks();
        refusals(c);
        everyPosition(c);
        setsStay(c);
        discardedStoresAreGone(c);
        c.end();
    }

    private static void refusals(Checks c) {
        LoadStoreQueue empty = new LoadStoreQueue(4, 1, 8);
        for (int p : new int[] {-1, 0, 1, 4, Integer.MIN_VALUE, Integer.MAX_VALUE}) {
            c.changesNothing(empty, "empty: discard(" + p + ")", () -> empty.discard(p), LoadStoreQueue.NO_OP);
        }
        LoadStoreQueue q = Fixtures.busy();
        for (int p : new int[] {-1, 10, 11, 12, 32, Integer.MIN_VALUE, Integer.MAX_VALUE}) {
            c.changesNothing(q, "discard(" + p + ")", () -> q.discard(p), LoadStoreQueue.NO_OP);
        }
    }

    private static void everyPosition(Checks c) {
        for (int p = 0; p < 10; p++) {
            LoadStoreQueue q = Fixtures.busy();
            String older = Checks.window(q, 0, p);
            String memory = Checks.memory(q);
            String sets = Checks.sets(q);
            c.due("discard(" + p + ")", q.discard(p), 10 - p);
            c.same("the older ones", Checks.window(q), p + ":" + older);
            c.due("nothing at p", q.describe(p), LoadStoreQueue.NO_OP);
            c.same("buffer and memory", Checks.memory(q), memory);
            c.same("sets", Checks.sets(q), sets);
            c.due("enter takes its place", q.enter(0, 14, 1), p);
        }
    }

    private static void setsStay(Checks c) {
        LoadStoreQueue q = new LoadStoreQueue(4, 1, 8);
        q.enter(1, 1, 1);
        Fixtures.load(q, 2, 1, 3);
        q.execute(1);
        c.due("sent back", q.setAddress(0, 3), 1);
        c.due("discard(0)", q.discard(0), 2);
        c.due("the pair stays", q.sameSet(1, 2), 1);
        q.enter(1, 1, 1);
        Fixtures.load(q, 2, 1, 3);
        c.changesNothing(q, "and predicts", () -> q.execute(1), LoadStoreQueue.PREDICTED);
    }

    private static void discardedStoresAreGone(Checks c) {
        LoadStoreQueue q = new LoadStoreQueue(4, 1, 8);
        Fixtures.store(q, 1, 1, 3, 99);
        q.discard(0);
        Fixtures.load(q, 2, 1, 3);
        q.execute(0);
        c.due("the load reads memory", q.value(0), 10);
        c.due("the load keeps out of it", q.commit(), 10);
        c.changesNothing(q, "nothing came into the buffer", q::drain, LoadStoreQueue.EMPTY);
    }
}
