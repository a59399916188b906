/** The two sentences of "Terms" on refusals: nothing changes, and the first condition in the list counts. */
public final class EdgesRefusalsTest {
    public static void main(String[] args) {
        Sentences s = new Sentences();
        s.holds("A call that answers a refusal (a negative constant other than `STORE_DONE`) changes nothing.",
                EdgesRefusalsTest::changeNothing);
        s.holds("(a negative constant other than `STORE_DONE`)", EdgesRefusalsTest::storeDoneIsNoRefusal);
        String inOrder = "In each promise the conditions for refusal apply in the order in which they are listed;"
                + " the first that holds gives the answer.";
        s.holds(inOrder + " enter", EdgesRefusalsTest::orderInEnter);
        s.holds(inOrder + " setAddress", EdgesRefusalsTest::orderInSetAddress);
        s.holds(inOrder + " setData", EdgesRefusalsTest::orderInSetData);
        s.holds(inOrder + " execute", EdgesRefusalsTest::orderInExecute);
        s.holds(inOrder + " commit", EdgesRefusalsTest::orderInCommit);
        s.end();
    }

    // Nothing that shows may change, and nothing hidden that shows later: a queue that
    // answered refusals must go on like one that was never asked.
    private static void changeNothing(Checks c) {
        LoadStoreQueue asked = Fixtures.busy(c);
        refuseAll(c, asked);
        LoadStoreQueue spared = Fixtures.busy(c);
        c.same("the run after refusals", goOn(asked), goOn(spared));

        LoadStoreQueue full = fullOfAll();
        refuseWhenFull(c, full);
        c.same("the run after refusals of a full queue", goOn(full), goOn(fullOfAll()));

        refuseCommit(c, LoadStoreQueue.LOAD);
        refuseCommit(c, LoadStoreQueue.STORE);

        LoadStoreQueue empty = new LoadStoreQueue(4, 1, 8);
        c.changesNothing(empty, "commit()", empty::commit, LoadStoreQueue.EMPTY);
        c.changesNothing(empty, "drain()", empty::drain, LoadStoreQueue.EMPTY);
        c.changesNothing(empty, "discard(0)", () -> empty.discard(0), LoadStoreQueue.NO_OP);
        c.same("the run after refusals of an empty queue", goOn(empty), goOn(new LoadStoreQueue(4, 1, 8)));
    }

    private static void refuseAll(Checks c, LoadStoreQueue q) {
        c.changesNothing(q, "enter(2, 0, 1)", () -> q.enter(2, 0, 1), LoadStoreQueue.BAD_KIND);
        c.changesNothing(q, "enter(0, 16, 1)", () -> q.enter(0, 16, 1), LoadStoreQueue.BAD_ARGUMENT);
        c.changesNothing(q, "enter(1, 0, 3)", () -> q.enter(1, 0, 3), LoadStoreQueue.BAD_ARGUMENT);
        c.changesNothing(q, "setAddress(10, 0)", () -> q.setAddress(10, 0), LoadStoreQueue.NO_OP);
        c.changesNothing(q, "setAddress(9, 0)", () -> q.setAddress(9, 0), LoadStoreQueue.ALREADY);
        c.changesNothing(q, "setAddress(2, 0)", () -> q.setAddress(2, 0), LoadStoreQueue.ALREADY);
        c.changesNothing(q, "setAddress(8, 23)", () -> q.setAddress(8, 23), LoadStoreQueue.BAD_ARGUMENT);
        c.changesNothing(q, "setAddress(5, 24)", () -> q.setAddress(5, 24), LoadStoreQueue.BAD_ARGUMENT);
        c.changesNothing(q, "setData(-1, 0)", () -> q.setData(-1, 0), LoadStoreQueue.NO_OP);
        c.changesNothing(q, "setData(7, 0)", () -> q.setData(7, 0), LoadStoreQueue.BAD_KIND);
        c.changesNothing(q, "setData(9, 0)", () -> q.setData(9, 0), LoadStoreQueue.BAD_KIND);
        c.changesNothing(q, "setData(6, 0)", () -> q.setData(6, 0), LoadStoreQueue.ALREADY);
        c.changesNothing(q, "execute(10)", () -> q.execute(10), LoadStoreQueue.NO_OP);
        c.changesNothing(q, "execute(1)", () -> q.execute(1), LoadStoreQueue.BAD_KIND);
        c.changesNothing(q, "execute(0)", () -> q.execute(0), LoadStoreQueue.ALREADY);
        c.changesNothing(q, "execute(8)", () -> q.execute(8), LoadStoreQueue.NO_ADDRESS);
        c.changesNothing(q, "execute(7)", () -> q.execute(7), LoadStoreQueue.NO_DATA);
        c.changesNothing(q, "discard(10)", () -> q.discard(10), LoadStoreQueue.NO_OP);
        c.changesNothing(q, "describe(10)", () -> q.describe(10), LoadStoreQueue.NO_OP);
        c.changesNothing(q, "address(10)", () -> q.address(10), LoadStoreQueue.NO_OP);
        c.changesNothing(q, "address(8)", () -> q.address(8), LoadStoreQueue.NO_ADDRESS);
        c.changesNothing(q, "value(10)", () -> q.value(10), LoadStoreQueue.NO_OP);
        c.changesNothing(q, "value(3)", () -> q.value(3), LoadStoreQueue.NOT_READY);
        c.changesNothing(q, "memory(24, 0)", () -> q.memory(24, 0), LoadStoreQueue.BAD_ARGUMENT);
        c.changesNothing(q, "memory(0, 3)", () -> q.memory(0, 3), LoadStoreQueue.BAD_ARGUMENT);
        c.changesNothing(q, "sameSet(6, 16)", () -> q.sameSet(6, 16), LoadStoreQueue.BAD_ARGUMENT);
    }

    /** Window and buffer full; a store that is ready is the oldest, and a load waits for a store of its set. */
    private static LoadStoreQueue fullOfAll() {
        LoadStoreQueue q = new LoadStoreQueue(4, 1, 8);
        Fixtures.pair(q, 3, 2);
        Fixtures.buffered(q, 1, 0, 9);
        Fixtures.store(q, 1, 1, 0, 8);
        Fixtures.bareStore(q, 2, 1);
        Fixtures.load(q, 3, 1, 0);
        Fixtures.executedLoad(q, 4, 1, 0);
        return q;
    }

    private static void refuseWhenFull(Checks c, LoadStoreQueue q) {
        c.changesNothing(q, "enter(0, 0, 1)", () -> q.enter(0, 0, 1), LoadStoreQueue.FULL);
        c.changesNothing(q, "enter(1, 0, 1)", () -> q.enter(1, 0, 1), LoadStoreQueue.FULL);
        c.changesNothing(q, "execute(2)", () -> q.execute(2), LoadStoreQueue.PREDICTED);
        c.changesNothing(q, "commit()", q::commit, LoadStoreQueue.FULL);
    }

    private static void refuseCommit(Checks c, int kind) {
        LoadStoreQueue asked = new LoadStoreQueue(4, 1, 8);
        LoadStoreQueue spared = new LoadStoreQueue(4, 1, 8);
        for (LoadStoreQueue q : new LoadStoreQueue[] {asked, spared}) {
            Fixtures.pair(q, 4, 3);
            q.enter(kind, 3, 2);
            Fixtures.executedLoad(q, 5, 1, 7);
        }
        c.changesNothing(asked, "commit() of kind " + kind, asked::commit, LoadStoreQueue.NOT_READY);
        c.same("the run after a refused commit of kind " + kind, goOn(asked), goOn(spared));
    }

    /** Answers of a run that makes every operation ready and takes everything out. */
    private static String goOn(LoadStoreQueue q) {
        StringBuilder answers = new StringBuilder();
        answers.append(q.drain()).append(' ').append(q.commit()).append(' ');
        for (int p = q.count() - 1; p >= 0; p--) {
            answers.append(q.setAddress(p, p)).append(' ');
            answers.append(q.setData(p, 1000 * p)).append(' ');
            answers.append(q.executeReady()).append(' ');
        }
        answers.append(q.enter(1, 14, 1)).append(' ').append(q.enter(0, 14, 1)).append(' ');
        answers.append(Checks.all(q));
        for (int i = 0; i < 40; i++) {
            answers.append(q.executeReady()).append(' ').append(q.commit()).append(' ').append(q.drain()).append(' ');
        }
        return answers.append(Checks.all(q)).toString();
    }

    private static void storeDoneIsNoRefusal(Checks c) {
        LoadStoreQueue q = new LoadStoreQueue(4, 1, 8);
        Fixtures.store(q, 1, 1, 0, 8);
        c.due("commit()", q.commit(), LoadStoreQueue.STORE_DONE);
        c.due("count()", q.count(), 0);
        c.due("pending()", q.pending(), 1);
    }

    private static void orderInEnter(Checks c) {
        LoadStoreQueue q = fullOfAll();
        LoadStoreQueue free = new LoadStoreQueue(4, 1, 8);
        c.changesNothing(free, "kind, pc", () -> free.enter(2, 16, 1), LoadStoreQueue.BAD_KIND);
        c.changesNothing(free, "kind, size", () -> free.enter(-1, 0, 3), LoadStoreQueue.BAD_KIND);
        c.changesNothing(q, "kind, pc, full", () -> q.enter(2, -1, 1), LoadStoreQueue.BAD_KIND);
        c.changesNothing(q, "kind, size, full", () -> q.enter(2, 0, 0), LoadStoreQueue.BAD_KIND);
        c.changesNothing(q, "kind, full", () -> q.enter(2, 0, 1), LoadStoreQueue.BAD_KIND);
        c.changesNothing(q, "pc, full", () -> q.enter(0, 16, 1), LoadStoreQueue.BAD_ARGUMENT);
        c.changesNothing(q, "size, full", () -> q.enter(1, 0, 8), LoadStoreQueue.BAD_ARGUMENT);
        c.changesNothing(q, "full", () -> q.enter(1, 15, 4), LoadStoreQueue.FULL);
    }

    private static void orderInSetAddress(Checks c) {
        LoadStoreQueue q = Fixtures.busy(c);
        for (int bad : new int[] {-1, 24, Integer.MIN_VALUE, Integer.MAX_VALUE}) {
            c.changesNothing(q, "no position, bad " + bad, () -> q.setAddress(10, bad), LoadStoreQueue.NO_OP);
            c.changesNothing(q, "known store, bad " + bad, () -> q.setAddress(2, bad), LoadStoreQueue.ALREADY);
            c.changesNothing(q, "known load, bad " + bad, () -> q.setAddress(3, bad), LoadStoreQueue.ALREADY);
            c.changesNothing(q, "unknown store, bad " + bad, () -> q.setAddress(5, bad), LoadStoreQueue.BAD_ARGUMENT);
            c.changesNothing(q, "unknown load, bad " + bad, () -> q.setAddress(8, bad), LoadStoreQueue.BAD_ARGUMENT);
        }
    }

    private static void orderInSetData(Checks c) {
        LoadStoreQueue q = Fixtures.busy(c);
        c.changesNothing(q, "an executed load", () -> q.setData(0, 1), LoadStoreQueue.BAD_KIND);
        q.discard(6);
        c.changesNothing(q, "where a store with data was", () -> q.setData(6, 1), LoadStoreQueue.NO_OP);
        q.discard(4);
        c.changesNothing(q, "where an executed load was", () -> q.setData(4, 1), LoadStoreQueue.NO_OP);
    }

    private static void orderInExecute(Checks c) {
        LoadStoreQueue stores = new LoadStoreQueue(4, 1, 16);
        Fixtures.bareStore(stores, 1, 1);
        Fixtures.bareStore(stores, 1, 1);
        stores.setData(1, 5);
        Fixtures.store(stores, 1, 1, 4, 5);
        c.changesNothing(stores, "store, no address, no data", () -> stores.execute(0), LoadStoreQueue.BAD_KIND);
        c.changesNothing(stores, "store, no address, data known", () -> stores.execute(1), LoadStoreQueue.BAD_KIND);
        c.changesNothing(stores, "store, all known", () -> stores.execute(2), LoadStoreQueue.BAD_KIND);
        stores.discard(2);
        c.changesNothing(stores, "where a store was", () -> stores.execute(2), LoadStoreQueue.NO_OP);

        // Pcs 1 and 2 become a set when load 1 is executed already and store 0 still lacks its address.
        LoadStoreQueue q = new LoadStoreQueue(8, 1, 16);
        Fixtures.bareStore(q, 1, 1);
        Fixtures.executedLoad(q, 2, 1, 4);
        Fixtures.bareStore(q, 1, 1);
        Fixtures.executedLoad(q, 2, 1, 9);
        c.due("the pair (2, 1)", q.setAddress(2, 9), 1);
        Fixtures.bareLoad(q, 2, 1);
        Fixtures.bareStore(q, 7, 1);
        q.setAddress(5, 12);
        Fixtures.load(q, 2, 1, 12);
        c.changesNothing(q, "executed, predicted", () -> q.execute(1), LoadStoreQueue.ALREADY);
        c.changesNothing(q, "no address, predicted", () -> q.execute(4), LoadStoreQueue.NO_ADDRESS);
        c.changesNothing(q, "predicted, no data in the set", () -> q.execute(3), LoadStoreQueue.PREDICTED);
        c.changesNothing(q, "predicted, no data elsewhere", () -> q.execute(6), LoadStoreQueue.PREDICTED);
        q.setAddress(0, 0);
        c.changesNothing(q, "no data in the set", () -> q.execute(3), LoadStoreQueue.NO_DATA);
        c.changesNothing(q, "no data elsewhere", () -> q.execute(6), LoadStoreQueue.NO_DATA);
    }

    private static void orderInCommit(Checks c) {
        LoadStoreQueue q = new LoadStoreQueue(4, 1, 16);
        Fixtures.buffered(q, 1, 0, 1);
        c.changesNothing(q, "empty window, full buffer", q::commit, LoadStoreQueue.EMPTY);
        Fixtures.bareStore(q, 1, 1);
        c.changesNothing(q, "nothing known, full buffer", q::commit, LoadStoreQueue.NOT_READY);
        q.setAddress(0, 0);
        c.changesNothing(q, "no data, full buffer", q::commit, LoadStoreQueue.NOT_READY);
        q.setData(0, 0);
        c.changesNothing(q, "all known, full buffer", q::commit, LoadStoreQueue.FULL);
        q.discard(0);
        Fixtures.bareStore(q, 1, 1);
        q.setData(0, 0);
        c.changesNothing(q, "no address, full buffer", q::commit, LoadStoreQueue.NOT_READY);
        q.discard(0);
        Fixtures.load(q, 1, 1, 0);
        c.changesNothing(q, "a load not executed, full buffer", q::commit, LoadStoreQueue.NOT_READY);
    }
}
