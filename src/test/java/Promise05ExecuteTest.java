/** Promise 5: execute. */
public final class Promise05ExecuteTest {
    public static void main(String[] args) {
        Checks c = new Checks();
        refusals(c);
        predicted(c);
        notPredicted(c);
        noData(c);
        everySourceByte(c);
        severalSources(c);
        bufferAndMemory(c);
        againAfterSentBack(c);
        nothingElseChanges(c);
        c.end();
    }

    private static void refusals(Checks c) {
        LoadStoreQueue empty = new LoadStoreQueue(4, 1, 8);
        c.changesNothing(empty, "execute(0) in an empty window", () -> empty.execute(0), LoadStoreQueue.NO_OP);
        LoadStoreQueue q = Fixtures.busy();
        for (int p : new int[] {-1, 10, 12, 32, Integer.MIN_VALUE, Integer.MAX_VALUE}) {
            c.changesNothing(q, "execute(" + p + ")", () -> q.execute(p), LoadStoreQueue.NO_OP);
        }
        for (int p : new int[] {1, 2, 5, 6}) {
            c.changesNothing(q, "execute of store " + p, () -> q.execute(p), LoadStoreQueue.BAD_KIND);
        }
        for (int p : new int[] {0, 4, 9}) {
            c.changesNothing(q, "execute again at " + p, () -> q.execute(p), LoadStoreQueue.ALREADY);
        }
        c.changesNothing(q, "execute without address", () -> q.execute(8), LoadStoreQueue.NO_ADDRESS);
        c.changesNothing(q, "no data for all bytes", () -> q.execute(3), LoadStoreQueue.NO_DATA);
        c.changesNothing(q, "no data for two bytes", () -> q.execute(7), LoadStoreQueue.NO_DATA);
    }

    private static void predicted(Checks c) {
        LoadStoreQueue q = new LoadStoreQueue(8, 2, 16);
        Fixtures.pair(q, 2, 1);
        Fixtures.pair(q, 2, 3);
        Fixtures.pair(q, 4, 3);
        q.enter(1, 1, 1);
        q.enter(1, 9, 1);
        q.setAddress(1, 0);
        q.enter(0, 4, 1);
        c.changesNothing(q, "no address before predicted", () -> q.execute(2), LoadStoreQueue.NO_ADDRESS);
        q.setAddress(2, 0);
        c.changesNothing(q, "predicted through a chain, before no data", () -> q.execute(2), LoadStoreQueue.PREDICTED);
        q.setData(0, 5);
        c.changesNothing(q, "known data do not help", () -> q.execute(2), LoadStoreQueue.PREDICTED);
        c.due("a known address does", q.setAddress(0, 1), 0);
        c.changesNothing(q, "then the data of the source", () -> q.execute(2), LoadStoreQueue.NO_DATA);
        q.setData(1, 77);
        c.due("then execute", q.execute(2), LoadStoreQueue.OK);
        c.due("its value", q.value(2), 77);

        LoadStoreQueue self = new LoadStoreQueue(8, 2, 16);
        Fixtures.pair(self, 6, 6);
        self.enter(1, 6, 1);
        self.enter(1, 7, 1);
        self.setAddress(1, 3);
        Fixtures.load(self, 6, 1, 4);
        c.changesNothing(self, "the same pc", () -> self.execute(2), LoadStoreQueue.PREDICTED);
        self.discard(1);
        Fixtures.load(self, 6, 1, 4);
        c.changesNothing(self, "the same pc, right before it", () -> self.execute(1), LoadStoreQueue.PREDICTED);
        self.clearSets();
        c.due("after clearSets", self.execute(1), LoadStoreQueue.OK);
    }

    private static void notPredicted(Checks c) {
        LoadStoreQueue q = new LoadStoreQueue(8, 2, 16);
        q.enter(1, 6, 1);
        Fixtures.load(q, 6, 1, 4);
        c.due("the same pc in no pair", q.execute(1), LoadStoreQueue.OK);
        q.discard(0);
        Fixtures.pair(q, 1, 2);
        Fixtures.pair(q, 3, 4);
        q.enter(1, 4, 1);
        q.enter(0, 2, 1);
        Fixtures.store(q, 2, 1, 9, 9);
        Fixtures.load(q, 1, 1, 4);
        q.enter(1, 2, 1);
        c.due("stores of another set, loads, known and younger stores hinder nothing", q.execute(3),
                LoadStoreQueue.OK);
        c.due("its value", q.value(3), 13);
        Fixtures.load(q, 5, 1, 4);
        c.due("a load of no set", q.execute(5), LoadStoreQueue.OK);
    }

    private static void noData(Checks c) {
        LoadStoreQueue q = new LoadStoreQueue(8, 2, 16);
        q.enter(1, 1, 1);
        q.setAddress(0, 7);
        Fixtures.load(q, 2, 4, 4);
        Fixtures.load(q, 2, 4, 3);
        Fixtures.load(q, 2, 4, 7);
        Fixtures.load(q, 2, 4, 8);
        c.changesNothing(q, "the last byte", () -> q.execute(1), LoadStoreQueue.NO_DATA);
        c.due("one byte before", q.execute(2), LoadStoreQueue.OK);
        c.changesNothing(q, "the first byte", () -> q.execute(3), LoadStoreQueue.NO_DATA);
        c.due("one byte after", q.execute(4), LoadStoreQueue.OK);
        q.setData(0, 0xAB);
        c.due("with data", q.execute(1), LoadStoreQueue.OK);
        c.due("value with data", q.value(1), 0xAB13100DL);

        LoadStoreQueue hidden = new LoadStoreQueue(8, 2, 16);
        hidden.enter(1, 1, 4);
        hidden.setAddress(0, 4);
        Fixtures.store(hidden, 1, 4, 4, 0x01020304);
        Fixtures.load(hidden, 2, 2, 5);
        hidden.enter(1, 1, 4);
        hidden.setAddress(3, 4);
        c.due("a store that is no source need not have data", hidden.execute(2), LoadStoreQueue.OK);
        c.due("value past the hidden store", hidden.value(2), 0x0203);

        LoadStoreQueue youngest = new LoadStoreQueue(8, 2, 16);
        Fixtures.store(youngest, 1, 4, 4, 0x01020304);
        youngest.enter(1, 1, 1);
        youngest.setAddress(1, 6);
        Fixtures.load(youngest, 2, 4, 4);
        c.changesNothing(youngest, "the youngest counts, with data or without", () -> youngest.execute(2),
                LoadStoreQueue.NO_DATA);
    }

    private static void everySourceByte(Checks c) {
        int data = 0xF4E3D2C1;
        for (int loadSize = 1; loadSize <= 4; loadSize *= 2) {
            for (int storeSize = 1; storeSize <= 4; storeSize *= 2) {
                for (int at = 0; at <= 16 - storeSize; at++) {
                    LoadStoreQueue q = new LoadStoreQueue(4, 1, 16);
                    Fixtures.store(q, 1, storeSize, at, data);
                    Fixtures.load(q, 2, loadSize, 6);
                    long want = 0;
                    for (int i = 0; i < loadSize; i++) {
                        int cell = 6 + i;
                        long part = cell >= at && cell < at + storeSize
                                ? data >> 8 * (cell - at) & 255 : 3 * cell + 1;
                        want += part << 8 * i;
                    }
                    String what = "store of " + storeSize + " at " + at + ", load of " + loadSize;
                    c.due(what, q.execute(1), LoadStoreQueue.OK);
                    c.due(what + ": from the window", q.value(1), want);
                    q.discard(1);
                    q.commit();
                    Fixtures.load(q, 2, loadSize, 6);
                    q.execute(0);
                    c.due(what + ": from the buffer", q.value(0), want);
                    q.discard(0);
                    q.drain();
                    Fixtures.load(q, 2, loadSize, 6);
                    q.execute(0);
                    c.due(what + ": from memory", q.value(0), want);
                }
            }
        }
    }

    private static void severalSources(Checks c) {
        LoadStoreQueue q = new LoadStoreQueue(8, 2, 16);
        Fixtures.store(q, 1, 1, 7, 0xB7);
        q.commit();
        Fixtures.store(q, 2, 4, 2, 0x44332211);
        Fixtures.store(q, 3, 1, 5, 0xEE);
        q.enter(1, 4, 4);
        q.setData(2, -1);
        Fixtures.load(q, 5, 4, 4);
        Fixtures.store(q, 6, 4, 4, -1);
        c.due("execute", q.execute(3), LoadStoreQueue.OK);
        c.due("33 and EE from stores, 13 from memory, B7 from the buffer", q.value(3), 0xB713EE33L);

        LoadStoreQueue big = new LoadStoreQueue(8, 2, 16);
        Fixtures.store(big, 1, 4, 12, -1);
        Fixtures.load(big, 2, 4, 12);
        big.execute(1);
        c.due("unsigned", big.value(1), 4294967295L);
        Fixtures.load(big, 2, 1, 15);
        big.execute(2);
        c.due("unsigned in one byte", big.value(2), 255);
        Fixtures.load(big, 2, 2, 11);
        big.execute(3);
        c.due("unsigned in two bytes", big.value(3), 0xFF22);
    }

    private static void bufferAndMemory(Checks c) {
        LoadStoreQueue q = new LoadStoreQueue(8, 3, 16);
        Fixtures.store(q, 1, 4, 4, 0x11111111);
        q.commit();
        Fixtures.store(q, 1, 2, 5, 0x2222);
        q.commit();
        Fixtures.store(q, 1, 1, 6, 0x33);
        q.commit();
        Fixtures.load(q, 2, 4, 4);
        Fixtures.load(q, 2, 4, 4);
        Fixtures.load(q, 2, 4, 4);
        Fixtures.load(q, 2, 4, 4);
        for (int drains = 0; drains <= 3; drains++) {
            c.due("execute after " + drains + " drains", q.execute(drains), LoadStoreQueue.OK);
            c.due("value after " + drains + " drains", q.value(drains), 0x11332211L);
            q.drain();
        }
    }

    private static void againAfterSentBack(Checks c) {
        LoadStoreQueue q = new LoadStoreQueue(8, 3, 16);
        q.enter(1, 1, 1);
        q.enter(1, 1, 1);
        q.enter(1, 3, 1);
        Fixtures.load(q, 2, 2, 4);
        q.execute(3);
        c.due("first value", q.value(3), 0x100D);
        c.due("sent back", q.setAddress(1, 4), 1);
        c.changesNothing(q, "now predicted by the other store of the pc", () -> q.execute(3), LoadStoreQueue.PREDICTED);
        q.setData(1, 0xAA);
        q.setAddress(0, 4);
        c.due("again", q.execute(3), LoadStoreQueue.OK);
        c.due("second value", q.value(3), 0x10AA);
        c.changesNothing(q, "and not a third time", () -> q.execute(3), LoadStoreQueue.ALREADY);
        c.due("sent back once more", q.setAddress(2, 5), 1);
        q.setData(2, 0xBB);
        c.due("again", q.execute(3), LoadStoreQueue.OK);
        c.due("third value", q.value(3), 0xBBAA);
    }

    private static void nothingElseChanges(Checks c) {
        LoadStoreQueue q = Fixtures.busy();
        q.setData(2, 0x0A0B0C0D);
        String before = Checks.window(q, 0, 7) + Checks.window(q, 8, 10) + Checks.memory(q) + Checks.sets(q);
        c.due("execute(7)", q.execute(7), LoadStoreQueue.OK);
        c.same("the load", Checks.operation(q, 7), "(371 10 " + 0xCAFE0A0BL + ")");
        c.same("the rest", Checks.window(q, 0, 7) + Checks.window(q, 8, 10) + Checks.memory(q) + Checks.sets(q),
                before);
        c.due("the busy fixture's first load", q.value(0), 0x1377EF22L);
    }
}
