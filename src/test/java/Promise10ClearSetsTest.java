/** Promise 10: clearSets. */
public final class Promise10ClearSetsTest {
    public static void main(String[] args) {
        Checks c = new Checks();
        String none = Checks.sets(new LoadStoreQueue(4, 1, 8));

        LoadStoreQueue fresh = new LoadStoreQueue(4, 1, 8);
        String start = Checks.all(fresh);
        fresh.clearSets();
        c.same("on a new queue", Checks.all(fresh), start);

        LoadStoreQueue busy = Fixtures.busy();
        String rest = Checks.window(busy) + Checks.memory(busy);
        c.due("before", busy.sameSet(6, 7), 1);
        busy.clearSets();
        c.same("nothing else changes", Checks.window(busy) + Checks.memory(busy), rest);
        c.same("no two pcs", Checks.sets(busy), none);

        LoadStoreQueue q = new LoadStoreQueue(4, 1, 8);
        for (int pc = 0; pc < 15; pc++) {
            Fixtures.pair(q, pc, pc + 1);
        }
        c.due("all in one set", q.sameSet(0, 15), 1);
        q.clearSets();
        c.same("none is left", Checks.sets(q), none);
        q.enter(1, 1, 1);
        Fixtures.load(q, 2, 1, 0);
        c.due("nothing is predicted", q.execute(1), LoadStoreQueue.OK);
        c.due("until a pair comes again", q.setAddress(0, 0), 1);
        c.due("the new pair", q.sameSet(1, 2), 1);
        c.due("old chains stay forgotten", q.sameSet(0, 1) + q.sameSet(2, 3) + q.sameSet(3, 4) + q.sameSet(5, 5), 0);
        c.end();
    }
}
