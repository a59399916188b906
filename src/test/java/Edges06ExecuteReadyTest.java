/** The sentences of Promise 6, each with a test of its own. */
public final class Edges06ExecuteReadyTest {
    public static void main(String[] args) {
        Sentences s = new Sentences();
        s.holds("`executeReady()` does `execute(p)` for p = 0, 1, .. `count()`-1 in this order",
                Edges06ExecuteReadyTest::everyPosition);
        s.holds("and answers how many of these gave `OK`:", Edges06ExecuteReadyTest::answerIsTheNumber);
        s.holds("0 if none, also for an empty window.", Edges06ExecuteReadyTest::none);
        s.holds("Positions for which `execute(p)` gives a refusal are not counted, and nothing changes for them.",
                Edges06ExecuteReadyTest::refusalsAreNotCounted);
        s.holds("Nothing changes but the loads that become executed.", Edges06ExecuteReadyTest::nothingElseChanges);
        s.end();
    }

    private static void everyPosition(Checks c) {
        for (int size : new int[] {4, 32}) {
            LoadStoreQueue q = new LoadStoreQueue(size, 1, 64);
            for (int p = 0; p < size; p++) {
                Fixtures.load(q, p % 16, 1, p);
            }
            q.executeReady();
            for (int p = 0; p < size; p++) {
                c.due("value(" + p + ")", q.value(p), 3 * p + 1);
            }
        }
        LoadStoreQueue all = ofEverySort();
        LoadStoreQueue one = ofEverySort();
        all.executeReady();
        for (int p = 0; p < one.count(); p++) {
            one.execute(p);
        }
        c.same("like execute in turn", Checks.all(all), Checks.all(one));
    }

    private static void answerIsTheNumber(Checks c) {
        for (int ready = 0; ready <= 32; ready++) {
            LoadStoreQueue q = new LoadStoreQueue(32, 1, 64);
            for (int p = 0; p < 32; p++) {
                // Spread over the window: the ready ones are not all at one end.
                if (p * 7 % 32 < ready) {
                    Fixtures.load(q, 1, 1, p);
                } else {
                    Fixtures.bareLoad(q, 1, 1);
                }
            }
            c.due(ready + " ready", q.executeReady(), ready);
        }
    }

    private static void none(Checks c) {
        LoadStoreQueue empty = new LoadStoreQueue(4, 1, 16);
        c.changesNothing(empty, "a new queue", empty::executeReady, 0);
        Fixtures.load(empty, 1, 1, 0);
        empty.discard(0);
        c.changesNothing(empty, "a ready load that was discarded", empty::executeReady, 0);
        LoadStoreQueue busy = Fixtures.busy(c);
        c.changesNothing(busy, "no load is ready", busy::executeReady, 0);
        LoadStoreQueue stores = new LoadStoreQueue(4, 1, 16);
        Fixtures.store(stores, 1, 1, 0, 0);
        c.changesNothing(stores, "a store alone", stores::executeReady, 0);
        LoadStoreQueue done = new LoadStoreQueue(4, 1, 16);
        Fixtures.executedLoad(done, 1, 1, 0);
        c.changesNothing(done, "an executed load alone", done::executeReady, 0);
    }

    /** Ready are 0, 6 and 8; 3 waits for a store of its set, 4 for data, 5 is executed, 7 has no address. */
    private static LoadStoreQueue ofEverySort() {
        LoadStoreQueue q = new LoadStoreQueue(16, 1, 16);
        Fixtures.pair(q, 2, 1);
        Fixtures.buffered(q, 1, 0, 77);
        Fixtures.load(q, 3, 1, 0);
        Fixtures.bareStore(q, 1, 1);
        Fixtures.bareStore(q, 4, 1);
        q.setAddress(2, 9);
        Fixtures.load(q, 2, 1, 3);
        Fixtures.load(q, 5, 2, 8);
        Fixtures.executedLoad(q, 5, 2, 0);
        Fixtures.load(q, 5, 4, 4);
        Fixtures.bareLoad(q, 5, 4);
        Fixtures.load(q, 5, 1, 8);
        return q;
    }

    private static void refusalsAreNotCounted(Checks c) {
        LoadStoreQueue q = ofEverySort();
        String before = Checks.window(q, 1, 6) + Checks.operation(q, 7);
        c.due("executeReady()", q.executeReady(), 3);
        c.same("the refused ones", Checks.window(q, 1, 6) + Checks.operation(q, 7), before);
        c.due("predicted", q.execute(3), LoadStoreQueue.PREDICTED);
        c.due("no data", q.execute(4), LoadStoreQueue.NO_DATA);
        c.due("no address", q.execute(7), LoadStoreQueue.NO_ADDRESS);
        c.changesNothing(q, "and none the next time", q::executeReady, 0);
    }

    private static void nothingElseChanges(Checks c) {
        LoadStoreQueue q = ofEverySort();
        String rest = Checks.memory(q) + Checks.sets(q);
        q.executeReady();
        c.same("buffer, memory and sets", Checks.memory(q) + Checks.sets(q), rest);
        c.same("the window", Checks.window(q), "9:(99 0 77)(36 -6 -9)(134 9 -9)(66 3 -9)(170 8 -9)(171 0 1101)"
                + "(179 4 370348045)(176 -6 -9)(163 8 25)");
    }
}
