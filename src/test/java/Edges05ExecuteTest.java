/** The sentences of Promise 5, each with a test of its own. */
public final class Edges05ExecuteTest {
    private static final int[] SIZES = {1, 2, 4};

    public static void main(String[] args) {
        Sentences s = new Sentences();
        s.holds("`NO_OP` if no such position.", Edges05ExecuteTest::noSuchPosition);
        s.holds("`BAD_KIND` if the operation is a store.", Edges05ExecuteTest::ofAStore);
        s.holds("`ALREADY` if it is executed.", Edges05ExecuteTest::already);
        s.holds("`NO_ADDRESS` if its address is unknown.", Edges05ExecuteTest::noAddress);
        s.holds("`PREDICTED` if some older store in the window has an unknown address and a pc in the same set as the"
                + " load's pc.", Edges05ExecuteTest::predicted);
        s.holds("some older store in the window has an unknown address and a pc in the same set as the load's pc",
                Edges05ExecuteTest::predictedByNothingElse);
        s.holds("`NO_DATA` if the source of some byte of the load is a store with unknown data.",
                Edges05ExecuteTest::noData);
        s.holds("the source of some byte of the load is a store with unknown data",
                Edges05ExecuteTest::noOtherStoreNeedsData);
        s.holds("Otherwise the load becomes executed and the answer is `OK`.", Edges05ExecuteTest::becomesExecuted);
        s.holds("a source store gives, for cell c, the byte of its data that belongs to c;",
                Edges05ExecuteTest::bytesOfStores);
        s.holds("the buffer and memory give the byte that c would hold if the whole buffer were drained now.",
                Edges05ExecuteTest::bytesOfTheBuffer);
        s.holds("The value is unsigned (the bits above the size are 0).", Edges05ExecuteTest::unsigned);
        s.holds("Older stores with unknown addresses whose pcs are not in the same set as the load's pc do not hinder"
                + " execution.", Edges05ExecuteTest::otherStoresDoNotHinder);
        s.holds("A load that was sent back may be executed again under the same conditions.",
                Edges05ExecuteTest::again);
        s.holds("Nothing but this load changes.", Edges05ExecuteTest::nothingElseChanges);
        s.end();
    }

    private static void noSuchPosition(Checks c) {
        LoadStoreQueue q = Fixtures.busy(c);
        for (int p : Fixtures.noPositions(q)) {
            c.changesNothing(q, "execute(" + p + ")", () -> q.execute(p), LoadStoreQueue.NO_OP);
        }
        q.discard(7);
        c.changesNothing(q, "where a load was", () -> q.execute(7), LoadStoreQueue.NO_OP);
    }

    private static void ofAStore(Checks c) {
        LoadStoreQueue q = Fixtures.busy(c);
        for (int p : new int[] {1, 2, 5, 6}) {
            c.changesNothing(q, "execute(" + p + ")", () -> q.execute(p), LoadStoreQueue.BAD_KIND);
        }
    }

    private static void already(Checks c) {
        LoadStoreQueue q = new LoadStoreQueue(4, 1, 16);
        Fixtures.store(q, 1, 1, 4, 50);
        Fixtures.executedLoad(q, 2, 1, 4);
        c.changesNothing(q, "once more", () -> q.execute(1), LoadStoreQueue.ALREADY);
        q.commit();
        q.drain();
        c.changesNothing(q, "after its source has left", () -> q.execute(0), LoadStoreQueue.ALREADY);
        LoadStoreQueue zero = new LoadStoreQueue(4, 1, 16);
        Fixtures.store(zero, 1, 1, 4, 0);
        Fixtures.executedLoad(zero, 2, 1, 4);
        c.changesNothing(zero, "with value 0", () -> zero.execute(1), LoadStoreQueue.ALREADY);
    }

    private static void noAddress(Checks c) {
        LoadStoreQueue q = new LoadStoreQueue(4, 1, 16);
        Fixtures.bareLoad(q, 2, 1);
        c.changesNothing(q, "without address", () -> q.execute(0), LoadStoreQueue.NO_ADDRESS);
        q.setAddress(0, 0);
        c.due("address 0 is known", q.execute(0), LoadStoreQueue.OK);
    }

    private static void predicted(Checks c) {
        // The store is at any place before the load, with its data or without.
        for (int at = 0; at < 31; at++) {
            LoadStoreQueue q = new LoadStoreQueue(32, 1, 16);
            Fixtures.pair(q, 2, 1);
            for (int p = 0; p < 31; p++) {
                if (p == at) {
                    Fixtures.bareStore(q, 1, 1);
                } else {
                    Fixtures.store(q, 1, 1, 9, 9);
                }
            }
            Fixtures.load(q, 2, 1, 0);
            c.changesNothing(q, "the store at " + at, () -> q.execute(31), LoadStoreQueue.PREDICTED);
            q.setData(at, 5);
            c.due("with data", q.execute(31), LoadStoreQueue.PREDICTED);
            q.setAddress(at, 5);
            c.due("with address", q.execute(31), LoadStoreQueue.OK);
        }
        LoadStoreQueue chain = new LoadStoreQueue(8, 1, 16);
        for (int pc = 0; pc < 15; pc++) {
            Fixtures.pair(chain, pc, pc + 1);
        }
        Fixtures.bareStore(chain, 15, 1);
        Fixtures.load(chain, 0, 1, 0);
        c.changesNothing(chain, "the ends of a chain", () -> chain.execute(1), LoadStoreQueue.PREDICTED);
        LoadStoreQueue self = new LoadStoreQueue(8, 1, 16);
        Fixtures.pair(self, 0, 0);
        Fixtures.bareStore(self, 0, 1);
        Fixtures.load(self, 0, 1, 0);
        c.changesNothing(self, "its own pc", () -> self.execute(1), LoadStoreQueue.PREDICTED);
    }

    private static void predictedByNothingElse(Checks c) {
        LoadStoreQueue q = new LoadStoreQueue(8, 1, 16);
        Fixtures.pair(q, 2, 1);
        Fixtures.buffered(q, 1, 9, 9);
        Fixtures.store(q, 1, 1, 8, 8);
        Fixtures.bareLoad(q, 1, 1);
        Fixtures.bareStore(q, 3, 1);
        Fixtures.bareStore(q, 1, 1);
        q.discard(3);
        Fixtures.load(q, 2, 1, 0);
        Fixtures.bareStore(q, 1, 1);
        c.due("neither a known, a discarded nor a younger store, nor a load", q.execute(3), LoadStoreQueue.OK);
        q.discard(4);
        q.clearSets();
        Fixtures.bareStore(q, 1, 1);
        Fixtures.load(q, 2, 1, 0);
        c.due("nor a forgotten pair", q.execute(5), LoadStoreQueue.OK);
    }

    private static void noData(Checks c) {
        for (int size : SIZES) {
            for (int i = 0; i < size; i++) {
                LoadStoreQueue q = new LoadStoreQueue(8, 1, 16);
                Fixtures.store(q, 1, 4, 4, -1);
                Fixtures.bareStore(q, 2, 1);
                q.setAddress(1, 4 + i);
                Fixtures.load(q, 3, size, 4);
                c.changesNothing(q, "byte " + i + " of " + size, () -> q.execute(2), LoadStoreQueue.NO_DATA);
                q.setData(1, 0);
                c.due("with data", q.execute(2), LoadStoreQueue.OK);
            }
        }
    }

    private static void noOtherStoreNeedsData(Checks c) {
        LoadStoreQueue q = new LoadStoreQueue(8, 1, 16);
        Fixtures.bareStore(q, 1, 4);
        q.setAddress(0, 4);
        Fixtures.store(q, 1, 2, 4, 0x2211);
        Fixtures.store(q, 1, 2, 6, 0x4433);
        Fixtures.bareStore(q, 1, 2);
        q.setAddress(3, 2);
        Fixtures.bareStore(q, 1, 4);
        q.setAddress(4, 8);
        Fixtures.bareStore(q, 1, 4);
        Fixtures.load(q, 2, 4, 4);
        Fixtures.bareStore(q, 1, 4);
        q.setAddress(7, 4);
        c.due("neither a hidden one, one beside, one without address nor a younger one", q.execute(6),
                LoadStoreQueue.OK);
        c.due("value(6)", q.value(6), 0x44332211L);
    }

    private static void becomesExecuted(Checks c) {
        for (int s = 0; s < 3; s++) {
            LoadStoreQueue q = new LoadStoreQueue(4, 1, 16);
            int last = 16 - SIZES[s];
            Fixtures.load(q, 15, SIZES[s], 0);
            Fixtures.load(q, 15, SIZES[s], last);
            for (int p = 1; p >= 0; p--) {
                c.due("describe before", q.describe(p), 15 * 32 + s * 8 + 2);
                c.due("execute", q.execute(p), LoadStoreQueue.OK);
                c.due("describe after", q.describe(p), 15 * 32 + s * 8 + 3);
            }
            long[] first = {0x01, 0x0401, 0x0A070401L};
            long[] end = {0x2E, 0x2E2B, 0x2E2B2825L};
            c.due("the first cells", q.commit(), first[s]);
            c.due("the last cells", q.commit(), end[s]);
        }
    }

    private static void bytesOfStores(Checks c) {
        int data = 0xF4E3D2C1;
        for (int loadSize : SIZES) {
            for (int storeSize : SIZES) {
                for (int at = 6 - storeSize; at <= 6 + loadSize; at++) {
                    LoadStoreQueue q = new LoadStoreQueue(4, 1, 16);
                    Fixtures.store(q, 1, storeSize, at, data);
                    Fixtures.load(q, 2, loadSize, 6);
                    c.due("execute(1)", q.execute(1), LoadStoreQueue.OK);
                    long want = 0;
                    for (int i = 0; i < loadSize; i++) {
                        int b = 6 + i - at;
                        long part = b >= 0 && b < storeSize ? data >>> 8 * b & 255 : 3 * (6 + i) + 1;
                        want += part << 8 * i;
                    }
                    c.due("load of " + loadSize + " at 6, store of " + storeSize + " at " + at, q.value(1), want);
                }
            }
        }
    }

    private static void bytesOfTheBuffer(Checks c) {
        LoadStoreQueue q = new LoadStoreQueue(8, 8, 16);
        for (int i = 0; i < 8; i++) {
            Fixtures.buffered(q, 4, i, 0x01010101 * (i + 1));
        }
        for (int drains = 0; drains <= 8; drains++) {
            Fixtures.executedLoad(q, 1, 4, 0);
            c.due("cells 0..3 after " + drains, q.commit(), 0x04030201L);
            Fixtures.executedLoad(q, 1, 4, 5);
            c.due("cells 5..8 after " + drains, q.commit(), 0x08080706L);
            Fixtures.executedLoad(q, 1, 4, 9);
            c.due("cells 9..12 after " + drains, q.commit(), 0x25220808L);
            q.drain();
        }
    }

    private static void unsigned(Checks c) {
        long[] most = {0xFF, 0xFFFF, 0xFFFFFFFFL};
        long[] top = {0x80, 0x8000, 0x80000000L};
        for (int s = 0; s < 3; s++) {
            LoadStoreQueue q = new LoadStoreQueue(8, 2, 16);
            Fixtures.store(q, 1, SIZES[s], 0, -1);
            Fixtures.store(q, 1, SIZES[s], 8, (int) top[s]);
            Fixtures.executedLoad(q, 2, SIZES[s], 0);
            Fixtures.executedLoad(q, 2, SIZES[s], 8);
            c.due("all bits, from a store", q.value(2), most[s]);
            c.due("the top bit, from a store", q.value(3), top[s]);
            q.commit();
            q.commit();
            Fixtures.executedLoad(q, 2, SIZES[s], 0);
            c.due("all bits, from the buffer", q.value(2), most[s]);
            q.drain();
            Fixtures.executedLoad(q, 2, SIZES[s], 0);
            c.due("all bits, from memory", q.value(3), most[s]);
        }
        // A wider load ran in this place before: nothing of it may be left above the size.
        LoadStoreQueue q = new LoadStoreQueue(4, 1, 16);
        Fixtures.store(q, 1, 4, 0, -1);
        Fixtures.executedLoad(q, 2, 4, 0);
        q.discard(1);
        Fixtures.executedLoad(q, 2, 1, 8);
        c.due("a narrow load in a wide one's place", q.value(1), 25);
    }

    private static void otherStoresDoNotHinder(Checks c) {
        LoadStoreQueue q = new LoadStoreQueue(32, 1, 16);
        Fixtures.pair(q, 5, 6);
        Fixtures.pair(q, 7, 8);
        for (int pc = 0; pc < 16; pc++) {
            if (pc != 5 && pc != 6) {
                Fixtures.bareStore(q, pc, 4);
            }
        }
        Fixtures.load(q, 5, 4, 4);
        Fixtures.load(q, 9, 4, 4);
        c.due("a load of another set", q.execute(14), LoadStoreQueue.OK);
        c.due("a load of no set, beside stores of its pc", q.execute(15), LoadStoreQueue.OK);
        c.due("value(14)", q.value(14), 0x1613100DL);
        c.due("value(15)", q.value(15), 0x1613100DL);
    }

    private static void again(Checks c) {
        LoadStoreQueue q = new LoadStoreQueue(8, 1, 16);
        Fixtures.bareStore(q, 1, 1);
        Fixtures.bareStore(q, 1, 1);
        Fixtures.executedLoad(q, 2, 1, 4);
        c.due("sent back", q.setAddress(1, 4), 1);
        c.changesNothing(q, "predicted", () -> q.execute(2), LoadStoreQueue.PREDICTED);
        q.setAddress(0, 9);
        c.changesNothing(q, "no data", () -> q.execute(2), LoadStoreQueue.NO_DATA);
        q.setData(1, 70);
        c.due("again", q.execute(2), LoadStoreQueue.OK);
        c.due("value(2)", q.value(2), 70);
        c.changesNothing(q, "already", () -> q.execute(2), LoadStoreQueue.ALREADY);
    }

    private static void nothingElseChanges(Checks c) {
        LoadStoreQueue q = Fixtures.busy(c);
        q.setData(2, 0x0A0B0C0D);
        String rest = Checks.window(q, 0, 7) + Checks.window(q, 8, 10) + Checks.memory(q) + Checks.sets(q);
        c.due("execute(7)", q.execute(7), LoadStoreQueue.OK);
        c.due("address(7)", q.address(7), 10);
        c.due("count()", q.count(), 10);
        c.same("the rest", Checks.window(q, 0, 7) + Checks.window(q, 8, 10) + Checks.memory(q) + Checks.sets(q), rest);
        rest = Checks.window(q, 0, 3) + Checks.window(q, 4, 10) + Checks.memory(q) + Checks.sets(q);
        c.due("execute(3)", q.execute(3), LoadStoreQueue.OK);
        c.same("the rest", Checks.window(q, 0, 3) + Checks.window(q, 4, 10) + Checks.memory(q) + Checks.sets(q), rest);
    }
}
