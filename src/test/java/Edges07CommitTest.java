/** The sentences of Promise 7, each with a test of its own. */
public final class Edges07CommitTest {
    public static void main(String[] args) {
        Sentences s = new Sentences();
        s.holds("`EMPTY` if the window is empty.", Edges07CommitTest::empty);
        s.holds("If position 0 is a load: `NOT_READY` if it is not executed.", Edges07CommitTest::loadNotReady);
        s.holds("Otherwise it leaves the window and its value is answered, unsigned, 0 .. 4294967295.",
                Edges07CommitTest::valueOfALoad);
        s.holds("The buffer does not change.", Edges07CommitTest::loadLeavesTheBuffer);
        s.holds("If position 0 is a store: `NOT_READY` if its address or its data are unknown;",
                Edges07CommitTest::storeNotReady);
        s.holds("then `FULL` if the buffer holds `bufferSize` stores.", Edges07CommitTest::fullBuffer);
        s.holds("Otherwise it leaves the window, becomes the youngest in the buffer, and the answer is `STORE_DONE`.",
                Edges07CommitTest::youngestInTheBuffer);
        s.holds("A full buffer does not hinder the commit of a load.", Edges07CommitTest::loadPastAFullBuffer);
        s.holds("When an operation leaves the window, the positions of all others go down by one.",
                Edges07CommitTest::positionsGoDown);
        s.holds("Executed loads in the window stay executed and keep their values.",
                Edges07CommitTest::loadsKeepTheirValues);
        s.holds("Memory, the remembered pairs, and what is known of the remaining operations do not change.",
                Edges07CommitTest::nothingElseChanges);
        s.end();
    }

    private static void empty(Checks c) {
        LoadStoreQueue q = new LoadStoreQueue(4, 2, 16);
        c.changesNothing(q, "a new queue", q::commit, LoadStoreQueue.EMPTY);
        Fixtures.buffered(q, 1, 0, 5);
        c.changesNothing(q, "all committed", q::commit, LoadStoreQueue.EMPTY);
        Fixtures.executedLoad(q, 1, 1, 0);
        q.discard(0);
        c.changesNothing(q, "all discarded", q::commit, LoadStoreQueue.EMPTY);
        Fixtures.store(q, 1, 1, 0, 5);
        q.discard(0);
        c.changesNothing(q, "a ready store discarded", q::commit, LoadStoreQueue.EMPTY);
    }

    private static void loadNotReady(Checks c) {
        LoadStoreQueue q = new LoadStoreQueue(8, 2, 16);
        Fixtures.bareLoad(q, 1, 1);
        Fixtures.executedLoad(q, 2, 1, 5);
        c.changesNothing(q, "no address", q::commit, LoadStoreQueue.NOT_READY);
        q.setAddress(0, 4);
        c.changesNothing(q, "not executed", q::commit, LoadStoreQueue.NOT_READY);
        q.execute(0);
        c.due("executed", q.commit(), 13);
        q.discard(0);
        Fixtures.bareStore(q, 1, 1);
        Fixtures.executedLoad(q, 2, 1, 5);
        q.setData(0, 9);
        q.setAddress(0, 5);
        q.commit();
        c.changesNothing(q, "sent back", q::commit, LoadStoreQueue.NOT_READY);
    }

    // Data that look like an answer of another meaning must come out as they are.
    private static void valueOfALoad(Checks c) {
        int[] data = {0, 1, -1, -2, -3, -4, -5, -6, -7, -8, -9, -10, -11, -12, Integer.MIN_VALUE, Integer.MAX_VALUE};
        for (int d : data) {
            LoadStoreQueue q = new LoadStoreQueue(4, 1, 8);
            Fixtures.store(q, 1, 4, 2, d);
            Fixtures.executedLoad(q, 2, 4, 2);
            q.commit();
            c.due("commit of a load of " + d, q.commit(), d & 0xFFFFFFFFL);
            c.due("it left", q.count(), 0);
        }
        int[] sizes = {1, 2, 4};
        long[] most = {255L, 65535L, 4294967295L};
        for (int s = 0; s < 3; s++) {
            LoadStoreQueue q = new LoadStoreQueue(4, 1, 8);
            Fixtures.buffered(q, 4, 2, -1);
            Fixtures.executedLoad(q, 2, sizes[s], 2);
            c.due("the most in " + sizes[s], q.commit(), most[s]);
        }
    }

    private static void loadLeavesTheBuffer(Checks c) {
        LoadStoreQueue q = Fixtures.busy(c);
        String memory = Checks.memory(q);
        c.due("commit()", q.commit(), 0x1377EF22L);
        c.due("pending()", q.pending(), 2);
        c.same("buffer and memory", Checks.memory(q), memory);
        LoadStoreQueue none = new LoadStoreQueue(4, 1, 8);
        Fixtures.executedLoad(none, 1, 1, 0);
        none.commit();
        c.due("an empty buffer", none.pending(), 0);
    }

    private static void storeNotReady(Checks c) {
        LoadStoreQueue address = new LoadStoreQueue(4, 2, 16);
        Fixtures.bareStore(address, 1, 1);
        Fixtures.store(address, 1, 1, 0, 0);
        c.changesNothing(address, "neither", address::commit, LoadStoreQueue.NOT_READY);
        address.setAddress(0, 0);
        c.changesNothing(address, "the address alone", address::commit, LoadStoreQueue.NOT_READY);
        address.setData(0, 0);
        c.due("both", address.commit(), LoadStoreQueue.STORE_DONE);
        LoadStoreQueue data = new LoadStoreQueue(4, 2, 16);
        Fixtures.bareStore(data, 1, 1);
        data.setData(0, 0);
        c.changesNothing(data, "the data alone", data::commit, LoadStoreQueue.NOT_READY);
        data.setAddress(0, 0);
        c.due("both", data.commit(), LoadStoreQueue.STORE_DONE);
    }

    private static void fullBuffer(Checks c) {
        for (int size = 1; size <= 8; size++) {
            LoadStoreQueue q = new LoadStoreQueue(32, size, 16);
            for (int i = 0; i <= size; i++) {
                Fixtures.store(q, 1, 1, 3, i);
            }
            for (int i = 0; i < size; i++) {
                c.due("commit " + i + " of " + size, q.commit(), LoadStoreQueue.STORE_DONE);
            }
            c.changesNothing(q, "one more than " + size, q::commit, LoadStoreQueue.FULL);
            q.drain();
            c.due("room after drain", q.commit(), LoadStoreQueue.STORE_DONE);
            Fixtures.bareStore(q, 1, 1);
            c.changesNothing(q, "not ready is asked first", q::commit, LoadStoreQueue.NOT_READY);
            q.setData(0, 1);
            c.changesNothing(q, "also without address", q::commit, LoadStoreQueue.NOT_READY);
            q.setAddress(0, 1);
            c.changesNothing(q, "then full", q::commit, LoadStoreQueue.FULL);
        }
    }

    private static void youngestInTheBuffer(Checks c) {
        LoadStoreQueue q = new LoadStoreQueue(32, 8, 16);
        for (int i = 0; i < 8; i++) {
            Fixtures.store(q, i, 2, 3 + i % 2, 0x0101 * i);
        }
        for (int i = 0; i < 8; i++) {
            c.due("commit()", q.commit(), LoadStoreQueue.STORE_DONE);
            c.due("it left the window", q.count(), 7 - i);
            c.due("it is in the buffer", q.pending(), i + 1);
            c.due("it writes last", q.memory(4, i + 1), i);
            c.due("the one before writes before", q.memory(4, i), i == 0 ? 13 : i - 1);
        }
        // The buffer begins anew after it was drained.
        for (int i = 0; i < 5; i++) {
            q.drain();
        }
        Fixtures.buffered(q, 1, 4, 99);
        c.due("the youngest of four", q.memory(4, 4), 99);
        c.due("the third of four", q.memory(4, 3), 7);
    }

    private static void loadPastAFullBuffer(Checks c) {
        for (int size : new int[] {1, 8}) {
            LoadStoreQueue q = new LoadStoreQueue(4, size, 16);
            for (int i = 0; i < size; i++) {
                Fixtures.buffered(q, 1, 3, 40 + i);
            }
            Fixtures.executedLoad(q, 1, 1, 3);
            c.due("commit of a load", q.commit(), 39 + size);
            c.due("count()", q.count(), 0);
            c.due("pending()", q.pending(), size);
        }
    }

    private static void positionsGoDown(Checks c) {
        LoadStoreQueue load = Fixtures.busy(c);
        String rest = Checks.window(load, 1, 10);
        load.commit();
        c.same("after a load", Checks.window(load), "9:" + rest);
        c.due("the last is gone", load.describe(9), LoadStoreQueue.NO_OP);
        load.setAddress(0, 0);
        rest = Checks.window(load, 1, 9);
        load.commit();
        c.same("after a store", Checks.window(load), "8:" + rest);
        c.due("the last is gone", load.describe(8), LoadStoreQueue.NO_OP);
        LoadStoreQueue full = new LoadStoreQueue(32, 1, 64);
        for (int p = 0; p < 32; p++) {
            Fixtures.executedLoad(full, p % 16, 1, p);
        }
        for (int gone = 1; gone <= 32; gone++) {
            full.commit();
            c.due("count()", full.count(), 32 - gone);
            c.due("the oldest", full.address(0), gone == 32 ? LoadStoreQueue.NO_OP : gone);
            c.due("the youngest", full.address(31 - gone), gone == 32 ? LoadStoreQueue.NO_OP : 31);
        }
    }

    private static void loadsKeepTheirValues(Checks c) {
        LoadStoreQueue q = new LoadStoreQueue(8, 2, 16);
        Fixtures.store(q, 1, 1, 4, 50);
        Fixtures.executedLoad(q, 2, 1, 4);
        Fixtures.store(q, 3, 1, 4, 60);
        Fixtures.executedLoad(q, 4, 1, 4);
        Fixtures.executedLoad(q, 5, 1, 9);
        q.commit();
        c.due("its source is in the buffer", q.value(0), 50);
        c.due("a later load", q.value(2), 60);
        c.due("another load", q.value(3), 28);
        c.due("the load itself", q.commit(), 50);
        q.commit();
        c.due("after three commits", q.value(0), 60);
        c.due("describe(0)", q.describe(0), 4 * 32 + 3);
        c.due("describe(1)", q.describe(1), 5 * 32 + 3);
    }

    private static void nothingElseChanges(Checks c) {
        LoadStoreQueue q = Fixtures.busy(c);
        q.setAddress(1, 4);
        for (int i = 0; i < 2; i++) {
            String memory = Checks.memoryAfter(q, 0) + Checks.memoryAfter(q, 1) + Checks.memoryAfter(q, 2);
            String sets = Checks.sets(q);
            String rest = Checks.window(q, 1, q.count());
            q.commit();
            c.same("memory and the older stores of the buffer",
                    Checks.memoryAfter(q, 0) + Checks.memoryAfter(q, 1) + Checks.memoryAfter(q, 2), memory);
            c.same("sets", Checks.sets(q), sets);
            c.same("the others", Checks.window(q, 0, q.count()), rest);
        }
        c.due("the pair is remembered", q.sameSet(6, 7), 1);
    }
}
