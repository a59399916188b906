/** Promise 3: setAddress. */
public final class Promise03SetAddressTest {
    public static void main(String[] args) {
        Checks c = new Checks();
        refusals(c);
        edgesOfMemory(c);
        ofALoad(c);
        everyOverlap(c);
        hiddenByYoungerStores(c);
        onlyExecutedYoungerLoads(c);
        manyLoadsSentBack(c);
        sameValueIsStillSentBack(c);
        nothingElseChanges(c);
        c.end();
    }

    private static void refusals(Checks c) {
        LoadStoreQueue empty = new LoadStoreQueue(4, 1, 8);
        c.changesNothing(empty, "an empty window", () -> empty.setAddress(0, 0), LoadStoreQueue.NO_OP);
        LoadStoreQueue q = Fixtures.busy();
        for (int p : new int[] {-1, 10, 11, 12, 32, 64, Integer.MIN_VALUE, Integer.MAX_VALUE}) {
            c.changesNothing(q, "setAddress at " + p, () -> q.setAddress(p, 0), LoadStoreQueue.NO_OP);
            c.changesNothing(q, "position before address at " + p, () -> q.setAddress(p, -1), LoadStoreQueue.NO_OP);
        }
        for (int p : new int[] {0, 2, 3, 4, 6, 7, 9}) {
            c.changesNothing(q, "setAddress again at " + p, () -> q.setAddress(p, 1), LoadStoreQueue.ALREADY);
            c.changesNothing(q, "known before bad at " + p, () -> q.setAddress(p, -1), LoadStoreQueue.ALREADY);
            c.changesNothing(q, "known before bad at " + p, () -> q.setAddress(p, 24), LoadStoreQueue.ALREADY);
        }
        for (int address : new int[] {-1, -2, 24, 25, 64, Integer.MIN_VALUE, Integer.MAX_VALUE}) {
            for (int p : new int[] {1, 5, 8}) {
                c.changesNothing(q, "setAddress(" + p + ", " + address + ")",
                        () -> q.setAddress(p, address), LoadStoreQueue.BAD_ARGUMENT);
            }
        }
    }

    private static void edgesOfMemory(Checks c) {
        for (int cells = 8; cells <= 64; cells += 7) {
            for (int size = 1; size <= 4; size *= 2) {
                for (int kind = 0; kind <= 1; kind++) {
                    LoadStoreQueue q = new LoadStoreQueue(4, 1, cells);
                    int last = cells - size;
                    q.enter(kind, 1, size);
                    q.enter(kind, 1, size);
                    c.changesNothing(q, "one below", () -> q.setAddress(0, -1), LoadStoreQueue.BAD_ARGUMENT);
                    c.changesNothing(q, "one above", () -> q.setAddress(0, last + 1), LoadStoreQueue.BAD_ARGUMENT);
                    c.due("the first", q.setAddress(0, 0), 0);
                    c.due("the first, read back", q.address(0), 0);
                    c.due("the last", q.setAddress(1, last), 0);
                    c.due("the last, read back", q.address(1), last);
                }
            }
        }
    }

    private static void ofALoad(Checks c) {
        LoadStoreQueue q = Fixtures.busy();
        String before = Checks.window(q, 0, 8) + Checks.operation(q, 9) + Checks.memory(q) + Checks.sets(q);
        c.due("setAddress of a load", q.setAddress(8, 12), 0);
        c.same("the load", Checks.operation(q, 8), "(" + (12 * 32 + 8 + 2) + " 12 -9)");
        c.same("the rest", Checks.window(q, 0, 8) + Checks.operation(q, 9) + Checks.memory(q) + Checks.sets(q), before);
    }

    private static void everyOverlap(Checks c) {
        for (int loadSize = 1; loadSize <= 4; loadSize *= 2) {
            for (int storeSize = 1; storeSize <= 4; storeSize *= 2) {
                for (int at = 0; at <= 16 - storeSize; at++) {
                    LoadStoreQueue q = new LoadStoreQueue(4, 1, 16);
                    q.enter(1, 1, storeSize);
                    Fixtures.load(q, 2, loadSize, 6);
                    q.execute(1);
                    long value = q.value(1);
                    boolean meet = at < 6 + loadSize && 6 < at + storeSize;
                    String what = "store of " + storeSize + " at " + at + ", load of " + loadSize + " at 6";
                    c.due(what, q.setAddress(0, at), meet ? 1 : 0);
                    c.due(what + ": value", q.value(1), meet ? LoadStoreQueue.NOT_READY : value);
                    c.due(what + ": address", q.address(1), 6);
                    c.due(what + ": set", q.sameSet(1, 2), meet ? 1 : 0);
                }
            }
        }
    }

    private static void hiddenByYoungerStores(Checks c) {
        LoadStoreQueue q = new LoadStoreQueue(8, 2, 16);
        q.enter(1, 1, 4);
        q.enter(1, 2, 2);
        q.enter(1, 3, 2);
        Fixtures.load(q, 4, 4, 4);
        q.enter(1, 5, 4);
        q.setAddress(1, 4);
        q.setData(1, 0x2211);
        q.setAddress(2, 6);
        q.setData(2, 0x4433);
        q.execute(3);
        c.due("hidden by two stores together", q.setAddress(0, 4), 0);
        c.due("the load keeps its value", q.value(3), 0x44332211L);
        c.due("no pair", q.sameSet(1, 4) + q.sameSet(1, 1) + q.sameSet(4, 4), 0);

        LoadStoreQueue partly = new LoadStoreQueue(8, 2, 16);
        partly.enter(1, 1, 4);
        Fixtures.store(partly, 2, 2, 4, 0x2211);
        Fixtures.store(partly, 3, 1, 6, 0x33);
        Fixtures.load(partly, 4, 4, 4);
        partly.execute(3);
        c.due("one cell not hidden", partly.setAddress(0, 4), 1);
        c.due("sent back", partly.value(3), LoadStoreQueue.NOT_READY);
        c.due("paired with the store alone", partly.sameSet(4, 1) * 100 + partly.sameSet(4, 2) * 10
                + partly.sameSet(4, 3), 100);

        LoadStoreQueue edge = new LoadStoreQueue(8, 2, 16);
        edge.enter(1, 1, 4);
        Fixtures.store(edge, 2, 2, 4, 0x2211);
        Fixtures.load(edge, 4, 4, 4);
        edge.execute(2);
        c.due("only the hidden cells are covered", edge.setAddress(0, 2), 0);
        c.due("and the load stays executed", edge.value(2), 0x16132211L);

        LoadStoreQueue noHelp = new LoadStoreQueue(8, 2, 16);
        Fixtures.store(noHelp, 6, 4, 4, 0);
        noHelp.enter(1, 1, 4);
        noHelp.enter(1, 2, 4);
        Fixtures.load(noHelp, 4, 4, 4);
        Fixtures.store(noHelp, 3, 4, 4, 0);
        noHelp.setData(2, 7);
        noHelp.execute(3);
        c.due("older stores, stores without address and stores younger than the load hide nothing",
                noHelp.setAddress(1, 4), 1);

        LoadStoreQueue dataUnknown = new LoadStoreQueue(8, 2, 16);
        dataUnknown.enter(1, 1, 4);
        dataUnknown.enter(1, 2, 4);
        Fixtures.load(dataUnknown, 4, 4, 4);
        dataUnknown.execute(2);
        c.due("without data", dataUnknown.setAddress(1, 4), 1);
        c.due("a load sent back is not sent back again", dataUnknown.setAddress(0, 4), 0);
        c.due("and makes no second pair", dataUnknown.sameSet(4, 1), 0);
    }

    private static void onlyExecutedYoungerLoads(Checks c) {
        LoadStoreQueue q = new LoadStoreQueue(8, 2, 16);
        Fixtures.load(q, 1, 4, 4);
        q.enter(1, 2, 4);
        Fixtures.load(q, 3, 4, 4);
        q.enter(0, 4, 4);
        Fixtures.load(q, 5, 1, 7);
        q.execute(0);
        q.execute(4);
        c.due("setAddress", q.setAddress(1, 4), 1);
        c.due("the older load stays", q.describe(0), 1 * 32 + 16 + 3);
        c.due("the load not executed", q.describe(2), 3 * 32 + 16 + 2);
        c.due("the load without address", q.describe(3), 4 * 32 + 16);
        c.due("the executed younger load", q.describe(4), 5 * 32 + 2);
        c.due("sets of the others", q.sameSet(1, 1) + q.sameSet(3, 3) + q.sameSet(4, 4), 0);
        c.due("set of the one sent back", q.sameSet(2, 5), 1);
    }

    private static void manyLoadsSentBack(Checks c) {
        LoadStoreQueue q = new LoadStoreQueue(32, 8, 64);
        q.enter(1, 0, 4);
        for (int i = 1; i < 32; i++) {
            Fixtures.load(q, i % 16, 1, 20 + i % 4);
        }
        c.due("all run ahead", q.executeReady(), 31);
        c.due("all are sent back", q.setAddress(0, 20), 31);
        c.due("none is executed again by the call", q.executeReady(), 0);
        c.due("all pcs are in one set", q.sameSet(15, 14), 1);
        c.due("also the pc of both", q.sameSet(0, 0), 1);
        q.setData(0, 0x04030201);
        c.due("all run again", q.executeReady(), 31);
        for (int i = 1; i < 32; i++) {
            c.due("value " + i, q.value(i), 1 + i % 4);
        }
        c.changesNothing(q, "no second time", () -> q.setAddress(0, 20), LoadStoreQueue.ALREADY);
    }

    private static void sameValueIsStillSentBack(Checks c) {
        LoadStoreQueue q = new LoadStoreQueue(8, 2, 16);
        q.enter(1, 1, 1);
        Fixtures.load(q, 1, 1, 5);
        q.setData(0, 16);
        q.execute(1);
        c.due("the value is the store's already", q.value(1), 16);
        c.due("and the load goes back all the same", q.setAddress(0, 5), 1);
        c.due("a pair of equal pcs", q.sameSet(1, 1), 1);
        c.due("the store keeps its data", q.value(0), 16);
    }

    private static void nothingElseChanges(Checks c) {
        LoadStoreQueue q = Fixtures.busy();
        String before = Checks.operation(q, 0) + Checks.window(q, 2, 9);
        String memory = Checks.memory(q);
        c.due("store 1 at 11: load 9 draws from store 6 alone, load 7 is not executed", q.setAddress(1, 11), 0);
        c.same("the others", Checks.operation(q, 0) + Checks.window(q, 2, 9), before);
        c.same("the store", Checks.operation(q, 1), "(" + (5 * 32 + 8 + 4 + 3) + " 11 4660)");
        c.same("buffer and memory", Checks.memory(q), memory);
        String rest = Checks.window(q, 0, 4) + Checks.window(q, 6, 10);
        c.due("store 5 at 20: load 4 is older", q.setAddress(5, 20), 0);
        c.same("the others", Checks.window(q, 0, 4) + Checks.window(q, 6, 10), rest);
        c.same("buffer and memory", Checks.memory(q), memory);
        c.due("no new set", q.sameSet(8, 9), 0);
        c.due("the old set", q.sameSet(6, 7), 1);
        c.same("the whole window after both", Checks.window(q), "10:(147 3 " + 0x1377EF22L + ")"
                + "(175 11 4660)(214 8 -9)(234 8 -9)(259 20 61)(294 20 -9)(335 12 51966)(370 10 -9)"
                + "(392 -6 -9)(427 12 51966)");
    }
}
