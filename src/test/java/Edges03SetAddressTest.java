/** The sentences of Promise 3, each with a test of its own. */
public final class Edges03SetAddressTest {
    private static final int[] SIZES = {1, 2, 4};

    public static void main(String[] args) {
        Sentences s = new Sentences();
        s.holds("`NO_OP` if no such position.", Edges03SetAddressTest::noSuchPosition);
        s.holds("`ALREADY` if its address is known.", Edges03SetAddressTest::already);
        s.holds("`BAD_ARGUMENT` if address < 0 or address > `memorySize` - its size.",
                Edges03SetAddressTest::badAddress);
        s.holds("Otherwise the address becomes known.", Edges03SetAddressTest::becomesKnown);
        s.holds("For a load the answer is 0 and nothing else changes; in particular the load is not thereby"
                + " executed.", Edges03SetAddressTest::ofALoad);
        s.holds("For a store, every executed younger load for which this store has now become the source of at"
                + " least one byte is sent back:", Edges03SetAddressTest::oneByteIsEnough);
        s.holds("the load is not executed any more, and its address stays known;", Edges03SetAddressTest::sentBack);
        s.holds("the pair (the load's pc, this store's pc) is remembered.", Edges03SetAddressTest::thePair);
        s.holds("This is so whether or not the store's data are known,", Edges03SetAddressTest::withOrWithoutData);
        s.holds("and also if the value of the load would be the same.", Edges03SetAddressTest::sameValue);
        s.holds("The answer is the number of loads sent back, 0 if there are none.",
                Edges03SetAddressTest::answerIsTheNumber);
        s.holds("A load is not sent back by this call if it is not executed,", Edges03SetAddressTest::notExecuted);
        s.holds("if it is older than the store,", Edges03SetAddressTest::olderLoad);
        s.holds("if the store covers none of its cells,", Edges03SetAddressTest::coversNone);
        s.holds("or if each of its cells that the store covers is also covered by some store with known address"
                + " that is younger than this store and older than the load", Edges03SetAddressTest::hidden);
        s.holds("(not necessarily the same one for every cell).", Edges03SetAddressTest::hiddenBySeveral);
        s.holds("some store with known address that is younger than this store and older than the load",
                Edges03SetAddressTest::noOtherStoreHides);
        s.holds("Executed loads that are not sent back stay executed and keep their values.",
                Edges03SetAddressTest::othersKeepTheirValues);
        s.holds("A load sent back stays at its position; it is not executed again by this call.",
                Edges03SetAddressTest::staysInPlace);
        s.holds("The data of the store, all other addresses, the positions, the buffer and memory do not change.",
                Edges03SetAddressTest::nothingElseChanges);
        s.end();
    }

    private static void noSuchPosition(Checks c) {
        LoadStoreQueue q = Fixtures.busy(c);
        for (int p : Fixtures.noPositions(q)) {
            c.changesNothing(q, "setAddress(" + p + ", 0)", () -> q.setAddress(p, 0), LoadStoreQueue.NO_OP);
        }
        q.discard(5);
        c.changesNothing(q, "where an operation was", () -> q.setAddress(5, 0), LoadStoreQueue.NO_OP);
    }

    private static void already(Checks c) {
        LoadStoreQueue q = Fixtures.busy(c);
        for (int p : new int[] {0, 2, 3, 4, 6, 7, 9}) {
            c.changesNothing(q, "the same address again", () -> q.setAddress(p, q.address(p)), LoadStoreQueue.ALREADY);
            c.changesNothing(q, "another address", () -> q.setAddress(p, 0), LoadStoreQueue.ALREADY);
        }
        LoadStoreQueue zero = new LoadStoreQueue(4, 1, 8);
        Fixtures.load(zero, 1, 1, 0);
        c.changesNothing(zero, "address 0 is known, too", () -> zero.setAddress(0, 3), LoadStoreQueue.ALREADY);
    }

    private static void badAddress(Checks c) {
        for (int cells : new int[] {8, 13, 64}) {
            for (int size : SIZES) {
                for (int kind = 0; kind <= 1; kind++) {
                    LoadStoreQueue q = new LoadStoreQueue(4, 1, cells);
                    q.enter(kind, 0, size);
                    q.enter(kind, 0, size);
                    int last = cells - size;
                    for (int bad : new int[] {Integer.MIN_VALUE, -2, -1, last + 1, last + 2, cells + 4, 64, 65,
                        Integer.MAX_VALUE - 3, Integer.MAX_VALUE}) {
                        c.changesNothing(q, "address " + bad, () -> q.setAddress(0, bad), LoadStoreQueue.BAD_ARGUMENT);
                    }
                    c.due("address 0", q.setAddress(0, 0), 0);
                    c.due("address " + last, q.setAddress(1, last), 0);
                }
            }
        }
    }

    private static void becomesKnown(Checks c) {
        for (int kind = 0; kind <= 1; kind++) {
            for (int x : new int[] {0, 1, 62, 63}) {
                LoadStoreQueue q = new LoadStoreQueue(4, 1, 64);
                q.enter(kind, 3, 1);
                c.due("setAddress", q.setAddress(0, x), 0);
                c.due("address(0)", q.address(0), x);
                c.due("describe(0)", q.describe(0), 3 * 32 + kind * 4 + 2);
            }
        }
    }

    private static void ofALoad(Checks c) {
        LoadStoreQueue q = Fixtures.busy(c);
        String rest = Checks.window(q, 0, 8) + Checks.operation(q, 9) + Checks.memory(q) + Checks.sets(q);
        c.due("setAddress over executed loads", q.setAddress(8, 12), 0);
        c.due("the load is not executed", q.value(8), LoadStoreQueue.NOT_READY);
        c.same("the rest", Checks.window(q, 0, 8) + Checks.operation(q, 9) + Checks.memory(q) + Checks.sets(q), rest);
        c.due("it can be", q.execute(8), LoadStoreQueue.OK);
    }

    private static void oneByteIsEnough(Checks c) {
        for (int loadSize : SIZES) {
            for (int storeSize : SIZES) {
                int x = 6;
                for (int at : new int[] {x - storeSize + 1, x, x + loadSize - 1}) {
                    LoadStoreQueue q = new LoadStoreQueue(4, 1, 16);
                    Fixtures.bareStore(q, 1, storeSize);
                    Fixtures.executedLoad(q, 2, loadSize, x);
                    c.due("store of " + storeSize + " at " + at + ", load of " + loadSize, q.setAddress(0, at), 1);
                    c.due("sent back", q.value(1), LoadStoreQueue.NOT_READY);
                }
            }
        }
        // One cell of four is left to the store, whichever it is.
        for (int open = 0; open < 4; open++) {
            LoadStoreQueue q = new LoadStoreQueue(8, 1, 16);
            Fixtures.bareStore(q, 1, 4);
            for (int i = 0; i < 4; i++) {
                if (i != open) {
                    Fixtures.store(q, 2, 1, 4 + i, 0);
                }
            }
            Fixtures.executedLoad(q, 3, 4, 4);
            c.due("all but byte " + open + " hidden", q.setAddress(0, 4), 1);
        }
    }

    private static void sentBack(Checks c) {
        LoadStoreQueue q = new LoadStoreQueue(4, 1, 16);
        Fixtures.bareStore(q, 1, 1);
        Fixtures.executedLoad(q, 2, 4, 9);
        q.setAddress(0, 12);
        c.due("describe(1)", q.describe(1), 2 * 32 + 16 + 2);
        c.due("value(1)", q.value(1), LoadStoreQueue.NOT_READY);
        c.due("address(1)", q.address(1), 9);
        q.setData(0, 0);
        q.commit();
        c.due("no commit", q.commit(), LoadStoreQueue.NOT_READY);
        c.due("its address is set already", q.setAddress(0, 9), LoadStoreQueue.ALREADY);
    }

    private static void thePair(Checks c) {
        for (int loadPc : new int[] {0, 8, 15}) {
            for (int storePc : new int[] {0, 7, 15}) {
                LoadStoreQueue q = new LoadStoreQueue(8, 1, 16);
                Fixtures.bareStore(q, 3, 1);
                Fixtures.bareStore(q, storePc, 1);
                Fixtures.executedLoad(q, 5, 1, 3);
                Fixtures.executedLoad(q, loadPc, 1, 4);
                q.setAddress(1, 4);
                for (int a = 0; a < 16; a++) {
                    for (int b = 0; b < 16; b++) {
                        boolean in = (a == loadPc || a == storePc) && (b == loadPc || b == storePc);
                        c.due("sameSet(" + a + ", " + b + ")", q.sameSet(a, b), in ? 1 : 0);
                    }
                }
            }
        }
    }

    private static void withOrWithoutData(Checks c) {
        for (int known = 0; known <= 1; known++) {
            LoadStoreQueue q = new LoadStoreQueue(4, 1, 16);
            Fixtures.bareStore(q, 1, 1);
            Fixtures.executedLoad(q, 2, 1, 3);
            if (known == 1) {
                q.setData(0, 99);
            }
            c.due("setAddress", q.setAddress(0, 3), 1);
            c.due("sent back", q.value(1), LoadStoreQueue.NOT_READY);
            c.due("the pair", q.sameSet(1, 2), 1);
        }
    }

    private static void sameValue(Checks c) {
        LoadStoreQueue q = new LoadStoreQueue(4, 1, 16);
        Fixtures.bareStore(q, 1, 4);
        q.setData(0, 0x1613100D);
        Fixtures.executedLoad(q, 2, 4, 4);
        c.due("the value from memory", q.value(1), 0x1613100DL);
        c.due("setAddress", q.setAddress(0, 4), 1);
        c.due("sent back", q.value(1), LoadStoreQueue.NOT_READY);
        c.due("the pair", q.sameSet(1, 2), 1);
    }

    private static void answerIsTheNumber(Checks c) {
        for (int loads : new int[] {0, 1, 2, 30, 31}) {
            LoadStoreQueue q = new LoadStoreQueue(32, 1, 16);
            Fixtures.bareStore(q, 1, 4);
            for (int i = 0; i < loads; i++) {
                Fixtures.executedLoad(q, 2, 1, 4 + i % 4);
            }
            for (int p = loads + 1; p < 32; p++) {
                Fixtures.executedLoad(q, 2, 1, 8);
            }
            c.due("setAddress before " + loads + " loads", q.setAddress(0, 4), loads);
        }
        LoadStoreQueue alone = new LoadStoreQueue(4, 1, 8);
        Fixtures.bareStore(alone, 1, 4);
        c.due("a store alone", alone.setAddress(0, 0), 0);
    }

    private static void notExecuted(Checks c) {
        LoadStoreQueue q = new LoadStoreQueue(8, 1, 16);
        Fixtures.bareStore(q, 1, 1);
        Fixtures.bareStore(q, 2, 1);
        Fixtures.load(q, 3, 1, 4);
        Fixtures.bareLoad(q, 4, 1);
        c.due("a load not executed and one without address", q.setAddress(1, 4), 0);
        c.due("no pair", q.sameSet(2, 3) + q.sameSet(2, 4) + q.sameSet(2, 2), 0);
        LoadStoreQueue twice = new LoadStoreQueue(8, 1, 16);
        Fixtures.bareStore(twice, 1, 1);
        Fixtures.bareStore(twice, 2, 1);
        Fixtures.executedLoad(twice, 3, 2, 4);
        c.due("an executed load", twice.setAddress(1, 4), 1);
        c.due("a load sent back before", twice.setAddress(0, 5), 0);
        c.due("no second pair", twice.sameSet(1, 3) + twice.sameSet(1, 1), 0);
    }

    private static void olderLoad(Checks c) {
        LoadStoreQueue q = new LoadStoreQueue(4, 1, 16);
        Fixtures.executedLoad(q, 1, 4, 4);
        Fixtures.executedLoad(q, 2, 4, 4);
        Fixtures.bareStore(q, 3, 4);
        c.due("setAddress", q.setAddress(2, 4), 0);
        c.due("the oldest load", q.value(0), 0x1613100DL);
        c.due("the load right before", q.value(1), 0x1613100DL);
        c.due("no pair", q.sameSet(3, 3) + q.sameSet(1, 3) + q.sameSet(2, 3), 0);
    }

    private static void coversNone(Checks c) {
        for (int loadSize : SIZES) {
            for (int storeSize : SIZES) {
                for (int at : new int[] {0, 6 - storeSize, 6 + loadSize, 16 - storeSize}) {
                    LoadStoreQueue q = new LoadStoreQueue(4, 1, 16);
                    Fixtures.bareStore(q, 1, storeSize);
                    Fixtures.executedLoad(q, 2, loadSize, 6);
                    long value = q.value(1);
                    c.due("store of " + storeSize + " at " + at + ", load of " + loadSize, q.setAddress(0, at), 0);
                    c.due("value(1)", q.value(1), value);
                    c.due("no pair", q.sameSet(1, 2) + q.sameSet(1, 1) + q.sameSet(2, 2), 0);
                }
            }
        }
    }

    private static void hidden(Checks c) {
        LoadStoreQueue whole = new LoadStoreQueue(4, 1, 16);
        Fixtures.bareStore(whole, 1, 4);
        Fixtures.store(whole, 2, 4, 4, -1);
        Fixtures.executedLoad(whole, 3, 4, 4);
        c.due("every cell of the load is hidden", whole.setAddress(0, 4), 0);
        c.due("it keeps its value", whole.value(2), 0xFFFFFFFFL);
        c.due("no pair", whole.sameSet(1, 3) + whole.sameSet(1, 1), 0);
        // Cells of the load that the store does not cover need no hiding.
        for (int at = 3; at <= 8; at++) {
            LoadStoreQueue part = new LoadStoreQueue(4, 1, 16);
            Fixtures.bareStore(part, 1, 2);
            Fixtures.store(part, 2, 2, 5, -1);
            Fixtures.executedLoad(part, 3, 4, 4);
            // The cells 4 and 7 of the load are open, 5 and 6 are hidden.
            boolean open = at <= 4 || at == 6 || at == 7;
            c.due("store of 2 at " + at, part.setAddress(0, at), open ? 1 : 0);
        }
    }

    private static void hiddenBySeveral(Checks c) {
        LoadStoreQueue q = new LoadStoreQueue(8, 1, 16);
        Fixtures.bareStore(q, 1, 4);
        Fixtures.store(q, 2, 1, 6, 0x66);
        Fixtures.store(q, 3, 2, 3, 0x4433);
        Fixtures.store(q, 4, 1, 7, 0x77);
        Fixtures.store(q, 5, 1, 5, 0x55);
        Fixtures.executedLoad(q, 6, 4, 4);
        c.due("each cell hidden by another store", q.setAddress(0, 4), 0);
        c.due("the value", q.value(5), 0x77665544L);
        c.due("no pair", q.sameSet(1, 6) + q.sameSet(6, 6), 0);
    }

    private static void noOtherStoreHides(Checks c) {
        LoadStoreQueue older = new LoadStoreQueue(8, 1, 16);
        Fixtures.store(older, 2, 1, 4, 0);
        Fixtures.bareStore(older, 1, 1);
        Fixtures.executedLoad(older, 3, 1, 4);
        c.due("a store older than this one", older.setAddress(1, 4), 1);
        LoadStoreQueue younger = new LoadStoreQueue(8, 1, 16);
        Fixtures.bareStore(younger, 1, 1);
        Fixtures.executedLoad(younger, 3, 1, 4);
        Fixtures.store(younger, 2, 1, 4, 0);
        c.due("a store younger than the load", younger.setAddress(0, 4), 1);
        LoadStoreQueue unknown = new LoadStoreQueue(8, 1, 16);
        Fixtures.bareStore(unknown, 1, 1);
        Fixtures.bareStore(unknown, 2, 1);
        unknown.setData(1, 0);
        Fixtures.executedLoad(unknown, 3, 1, 4);
        c.due("a store without address", unknown.setAddress(0, 4), 1);
        LoadStoreQueue load = new LoadStoreQueue(8, 1, 16);
        Fixtures.bareStore(load, 1, 1);
        Fixtures.executedLoad(load, 2, 1, 4);
        Fixtures.executedLoad(load, 3, 1, 4);
        c.due("a load between", load.setAddress(0, 4), 2);
        LoadStoreQueue buffer = new LoadStoreQueue(8, 1, 16);
        Fixtures.buffered(buffer, 1, 4, 0);
        Fixtures.bareStore(buffer, 1, 1);
        Fixtures.executedLoad(buffer, 3, 1, 4);
        c.due("a store in the buffer", buffer.setAddress(0, 4), 1);
        LoadStoreQueue gone = new LoadStoreQueue(8, 1, 16);
        Fixtures.bareStore(gone, 1, 1);
        Fixtures.store(gone, 2, 1, 4, 0);
        gone.discard(1);
        Fixtures.executedLoad(gone, 3, 1, 4);
        c.due("a discarded store", gone.setAddress(0, 4), 1);
    }

    private static void othersKeepTheirValues(Checks c) {
        LoadStoreQueue q = new LoadStoreQueue(8, 2, 16);
        Fixtures.store(q, 6, 2, 4, 0x2211);
        Fixtures.executedLoad(q, 1, 2, 4);
        Fixtures.bareStore(q, 2, 1);
        Fixtures.executedLoad(q, 3, 2, 4);
        Fixtures.executedLoad(q, 4, 2, 5);
        Fixtures.executedLoad(q, 5, 4, 8);
        // The store that gave the values has left the window.
        q.commit();
        q.drain();
        c.due("one of four is sent back", q.setAddress(1, 6), 1);
        c.due("the older load", q.value(0), 0x2211);
        c.due("the load before the cell", q.value(2), 0x2211);
        c.due("the load that missed", q.value(3), LoadStoreQueue.NOT_READY);
        c.due("the load after the cell", q.value(4), 0x221F1C19L);
    }

    private static void staysInPlace(Checks c) {
        LoadStoreQueue q = new LoadStoreQueue(8, 1, 16);
        Fixtures.bareStore(q, 1, 1);
        q.setData(0, 99);
        Fixtures.executedLoad(q, 2, 1, 4);
        Fixtures.executedLoad(q, 3, 2, 4);
        Fixtures.executedLoad(q, 4, 1, 5);
        c.due("two are sent back", q.setAddress(0, 4), 2);
        c.due("count()", q.count(), 4);
        c.due("describe(1)", q.describe(1), 2 * 32 + 2);
        c.due("describe(2)", q.describe(2), 3 * 32 + 8 + 2);
        c.due("describe(3)", q.describe(3), 4 * 32 + 3);
        c.due("both could be executed again", q.executeReady(), 2);
    }

    private static void nothingElseChanges(Checks c) {
        LoadStoreQueue q = Fixtures.busy(c);
        // Without store 6 nothing hides store 1 from a load of cell 13.
        q.discard(6);
        Fixtures.executedLoad(q, 13, 2, 12);
        String rest = Checks.operation(q, 0) + Checks.window(q, 2, 6);
        String memory = Checks.memory(q);
        c.due("setAddress(1, 13)", q.setAddress(1, 13), 1);
        c.same("the store keeps its data", Checks.operation(q, 1), "(" + (5 * 32 + 8 + 4 + 3) + " 13 4660)");
        c.same("the load keeps its address", Checks.operation(q, 6), "(" + (13 * 32 + 8 + 2) + " 12 -9)");
        c.same("the other operations", Checks.operation(q, 0) + Checks.window(q, 2, 6), rest);
        c.due("count()", q.count(), 7);
        c.same("buffer and memory", Checks.memory(q), memory);
        c.due("setAddress(5, 20)", q.setAddress(5, 20), 0);
        c.due("data unknown before, unknown now", q.value(5), LoadStoreQueue.NOT_READY);
    }
}
