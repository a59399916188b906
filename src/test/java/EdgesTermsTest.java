/** The sentences of "Terms" that name an edge, each with a test of its own; refusals are in EdgesRefusalsTest. */
public final class EdgesTermsTest {
    private static final int[] SIZES = {1, 2, 4};

    public static void main(String[] args) {
        Sentences s = new Sentences();
        s.holds("`windowSize`, `bufferSize` and `memorySize` always mean the sizes after clamping (Promise 1).",
                EdgesTermsTest::sizesAreClampedOnes);
        s.holds("The cells 0 .. `memorySize`-1, one byte each (0..255).", EdgesTermsTest::cellsAreBytes);
        s.holds("a pc (0..15, the number of the instruction it comes from; many operations may have the same pc,"
                + " whatever their kinds)", EdgesTermsTest::manyOfOnePc);
        s.holds("and a size of 1, 2 or 4 bytes.", EdgesTermsTest::kindPcAndSize);
        s.holds("With address x it covers the cells x .. x+size-1.", EdgesTermsTest::coveredCells);
        s.holds("Any x with 0 <= x <= `memorySize`-size is allowed;", EdgesTermsTest::allowedAddresses);
        s.holds("there is no alignment", EdgesTermsTest::noAlignment);
        s.holds("and no wrapping.", EdgesTermsTest::noWrapping);
        s.holds("Byte i of a value (bits 8\\*i .. 8\\*i+7) belongs to cell x+i, for 0 <= i < size.",
                EdgesTermsTest::bytesOfAValue);
        s.holds("Address and data are set at most once.", EdgesTermsTest::setAtMostOnce);
        s.holds("The operations entered and not yet committed or discarded, in the order of entering.",
                EdgesTermsTest::windowInOrderOfEntering);
        s.holds("Position 0 is the oldest, position `count()`-1 the youngest.", EdgesTermsTest::firstAndLastPosition);
        s.holds("When the oldest is committed, all positions go down by one.", EdgesTermsTest::positionsGoDown);
        s.holds("\"Older\" and \"younger\" are by this order.", EdgesTermsTest::olderIsByEntering);
        s.holds("The stores committed and not yet drained, in the order of commit.",
                EdgesTermsTest::bufferInOrderOfCommit);
        s.holds("All of them are older than every operation in the window.", EdgesTermsTest::bufferIsOlder);
        s.holds("the youngest store in the window that is older than the load, has a known address and covers c,",
                EdgesTermsTest::sourceIsYoungestOlderStore);
        s.holds("whether its data are known or not.", EdgesTermsTest::sourceMayLackData);
        s.holds("If there is none, the source is the buffer and memory: the byte that c would hold if the whole"
                + " buffer were drained now.", EdgesTermsTest::sourceIsBufferAndMemory);
        s.holds("Each byte of a load has its own source, so one load may draw its bytes from several stores and from"
                + " the buffer and memory at once.", EdgesTermsTest::eachByteItsSource);
        s.holds("Each time a load is sent back because of a store, the pair (pc of the load, pc of the store) is"
                + " remembered, until `clearSets()`.", EdgesTermsTest::eachTimeAPair);
        s.holds("Pairs have no direction.", EdgesTermsTest::pairsWithoutDirection);
        s.holds("The two pcs of a pair may be equal.", EdgesTermsTest::pairOfEqualPcs);
        s.holds("Two pcs a and b are *in the same set* when a chain of one or more remembered pairs leads from a"
                + " to b.", EdgesTermsTest::chains);
        s.holds("So a pc is in the same set as itself exactly when it occurs in some remembered pair.",
                EdgesTermsTest::sameSetAsItself);
        s.holds("**No such position** means p < 0 or p >= `count()`.", EdgesTermsTest::noSuchPosition);
        s.holds("In an empty window there is no such position for any p.", EdgesTermsTest::emptyWindow);
        s.end();
    }

    private static void sizesAreClampedOnes(Checks c) {
        LoadStoreQueue small = new LoadStoreQueue(0, 0, 0);
        for (int p = 0; p < 4; p++) {
            c.due("enter", small.enter(LoadStoreQueue.STORE, p, 4), p);
        }
        c.changesNothing(small, "a fifth", () -> small.enter(LoadStoreQueue.STORE, 0, 4), LoadStoreQueue.FULL);
        c.changesNothing(small, "past cell 7", () -> small.setAddress(0, 5), LoadStoreQueue.BAD_ARGUMENT);
        c.due("up to cell 7", small.setAddress(0, 4), 0);
        c.due("memory(7, 0)", small.memory(7, 0), 22);
        c.changesNothing(small, "memory(8, 0)", () -> small.memory(8, 0), LoadStoreQueue.BAD_ARGUMENT);
        small.setData(0, 0);
        small.setAddress(1, 0);
        small.setData(1, 0);
        c.due("the first in the buffer", small.commit(), LoadStoreQueue.STORE_DONE);
        c.changesNothing(small, "a second in the buffer", small::commit, LoadStoreQueue.FULL);

        LoadStoreQueue big = new LoadStoreQueue(1000, 1000, 1000);
        for (int p = 0; p < 32; p++) {
            c.due("enter", Fixtures.store(big, 0, 4, 60, p), p);
        }
        c.changesNothing(big, "a 33rd", () -> big.enter(LoadStoreQueue.LOAD, 0, 4), LoadStoreQueue.FULL);
        for (int n = 0; n < 8; n++) {
            c.due("commit", big.commit(), LoadStoreQueue.STORE_DONE);
        }
        c.changesNothing(big, "a ninth in the buffer", big::commit, LoadStoreQueue.FULL);
        Fixtures.bareLoad(big, 0, 4);
        c.changesNothing(big, "past cell 63", () -> big.setAddress(24, 61), LoadStoreQueue.BAD_ARGUMENT);
        c.changesNothing(big, "memory(64, 0)", () -> big.memory(64, 0), LoadStoreQueue.BAD_ARGUMENT);
    }

    private static void cellsAreBytes(Checks c) {
        int[] data = {0, 1, 127, 128, 255, 256, 257, -1, -128, -129, Integer.MIN_VALUE, Integer.MAX_VALUE};
        int[] want = {0, 1, 127, 128, 255, 0, 1, 255, 128, 127, 0, 255};
        for (int cells = 8; cells <= 64; cells += 8) {
            LoadStoreQueue q = new LoadStoreQueue(4, 1, cells);
            int last = cells - 1;
            for (int i = 0; i < data.length; i++) {
                Fixtures.buffered(q, 1, 0, data[i]);
                c.due("cell 0 to come", q.memory(0, 1), want[i]);
                q.drain();
                c.due("cell 0", q.memory(0, 0), want[i]);
                Fixtures.buffered(q, 1, last, data[i]);
                q.drain();
                c.due("the last cell", q.memory(last, 0), want[i]);
                c.due("cell 1", q.memory(1, 0), 4);
                c.due("the last but one", q.memory(last - 1, 0), 3 * (last - 1) + 1);
            }
            c.due("cell -1", q.memory(-1, 0), LoadStoreQueue.BAD_ARGUMENT);
            c.due("cell " + cells, q.memory(cells, 0), LoadStoreQueue.BAD_ARGUMENT);
        }
    }

    private static void manyOfOnePc(Checks c) {
        for (int pc : new int[] {0, 15}) {
            LoadStoreQueue q = new LoadStoreQueue(32, 1, 64);
            for (int p = 0; p < 32; p++) {
                c.due("enter", q.enter(p % 2, pc, 1), p);
            }
            for (int p = 0; p < 32; p++) {
                c.due("describe(" + p + ")", q.describe(p), pc * 32 + p % 2 * 4);
            }
            q.setAddress(30, 9);
            c.due("a load beside 15 older stores of its pc", q.execute(30), LoadStoreQueue.OK);
        }
    }

    private static void kindPcAndSize(Checks c) {
        for (int kind : new int[] {LoadStoreQueue.LOAD, LoadStoreQueue.STORE}) {
            for (int pc : new int[] {0, 1, 14, 15}) {
                for (int s = 0; s < 3; s++) {
                    LoadStoreQueue q = new LoadStoreQueue(4, 1, 8);
                    c.due("enter", q.enter(kind, pc, SIZES[s]), 0);
                    c.due("describe", q.describe(0), pc * 32 + s * 8 + kind * 4);
                    c.due("one too far", q.setAddress(0, 9 - SIZES[s]), LoadStoreQueue.BAD_ARGUMENT);
                    c.due("the farthest", q.setAddress(0, 8 - SIZES[s]), 0);
                }
            }
        }
    }

    private static void coveredCells(Checks c) {
        for (int size : SIZES) {
            int x = 5;
            for (int cell = 0; cell < 16; cell++) {
                boolean covered = cell == x || cell > x && cell <= x + size - 1;
                LoadStoreQueue store = new LoadStoreQueue(4, 1, 16);
                Fixtures.bareStore(store, 1, size);
                Fixtures.executedLoad(store, 2, 1, cell);
                c.due("store of " + size + " at 5 over the load of " + cell, store.setAddress(0, x), covered ? 1 : 0);
                LoadStoreQueue load = new LoadStoreQueue(4, 1, 16);
                Fixtures.bareStore(load, 1, 1);
                Fixtures.executedLoad(load, 2, size, x);
                c.due("load of " + size + " at 5 under the store of " + cell, load.setAddress(0, cell),
                        covered ? 1 : 0);
            }
        }
    }

    private static void allowedAddresses(Checks c) {
        for (int cells : new int[] {8, 9, 63, 64}) {
            for (int size : SIZES) {
                for (int kind : new int[] {LoadStoreQueue.LOAD, LoadStoreQueue.STORE}) {
                    LoadStoreQueue q = new LoadStoreQueue(4, 1, cells);
                    for (int x = -9; x <= 80; x++) {
                        boolean allowed = 0 <= x && x <= cells - size;
                        q.enter(kind, 0, size);
                        c.due("address " + x + " for " + size + " of " + cells, q.setAddress(0, x),
                                allowed ? 0 : LoadStoreQueue.BAD_ARGUMENT);
                        c.due("read back", q.address(0), allowed ? x : LoadStoreQueue.NO_ADDRESS);
                        q.discard(0);
                    }
                }
            }
        }
    }

    private static void noWrapping(Checks c) {
        for (int cells : new int[] {8, 64}) {
            LoadStoreQueue q = new LoadStoreQueue(4, 1, cells);
            Fixtures.buffered(q, 4, cells - 4, -1);
            q.drain();
            for (int a = 0; a < cells; a++) {
                c.due("memory(" + a + ", 0)", q.memory(a, 0), a < cells - 4 ? 3 * a + 1 : 255);
            }
            Fixtures.bareStore(q, 0, 4);
            for (int x : new int[] {cells - 3, cells - 1, cells, 2 * cells, -1, -4, -cells, 256, 65536,
                Integer.MIN_VALUE, Integer.MIN_VALUE + 4, Integer.MAX_VALUE, Integer.MAX_VALUE - 3}) {
                c.changesNothing(q, "setAddress(0, " + x + ")", () -> q.setAddress(0, x), LoadStoreQueue.BAD_ARGUMENT);
            }
        }
    }

    private static void noAlignment(Checks c) {
        for (int size : SIZES) {
            for (int x = 0; x <= 8 - size; x++) {
                LoadStoreQueue q = new LoadStoreQueue(4, 1, 8);
                Fixtures.executedLoad(q, 0, size, x);
                c.due("a load of " + size + " at " + x, q.commit() & 255, 3 * x + 1);
                Fixtures.buffered(q, size, x, 0x01010101);
                for (int a = 0; a < 8; a++) {
                    boolean written = x <= a && a < x + size;
                    c.due("cell " + a + " of a store of " + size + " at " + x, q.memory(a, 1), written ? 1 : 3 * a + 1);
                }
            }
        }
    }

    private static void bytesOfAValue(Checks c) {
        int data = 0xF4E3D2C1;
        int[] bytes = {0xC1, 0xD2, 0xE3, 0xF4};
        for (int size : SIZES) {
            LoadStoreQueue q = new LoadStoreQueue(8, 1, 16);
            Fixtures.store(q, 1, size, 7, data);
            for (int i = 0; i < size; i++) {
                Fixtures.executedLoad(q, 2, 1, 7 + i);
                c.due("byte " + i + " of a store of " + size, q.value(1 + i), bytes[i]);
            }
            c.due("commit", q.commit(), LoadStoreQueue.STORE_DONE);
            for (int i = 0; i < size; i++) {
                c.due("cell of byte " + i + " of " + size, q.memory(7 + i, 1), bytes[i]);
            }
            c.due("the cell before", q.memory(6, 1), 19);
            c.due("the cell after", q.memory(7 + size, 1), 3 * (7 + size) + 1);
            q.drain();
            q.discard(0);
            long value = 0;
            for (int i = 0; i < size; i++) {
                value += (long) bytes[i] << 8 * i;
            }
            Fixtures.executedLoad(q, 2, size, 7);
            c.due("a load of " + size, q.value(0), value);
        }
    }

    private static void setAtMostOnce(Checks c) {
        LoadStoreQueue q = new LoadStoreQueue(8, 1, 16);
        Fixtures.bareStore(q, 1, 2);
        Fixtures.executedLoad(q, 2, 2, 4);
        c.changesNothing(q, "the load's own address", () -> q.setAddress(1, 4), LoadStoreQueue.ALREADY);
        c.changesNothing(q, "another address of the load", () -> q.setAddress(1, 5), LoadStoreQueue.ALREADY);
        q.setAddress(0, 4);
        c.changesNothing(q, "the store's own address", () -> q.setAddress(0, 4), LoadStoreQueue.ALREADY);
        c.changesNothing(q, "another address of the store", () -> q.setAddress(0, 0), LoadStoreQueue.ALREADY);
        c.changesNothing(q, "the load that was sent back", () -> q.setAddress(1, 0), LoadStoreQueue.ALREADY);
        q.setData(0, 0);
        c.changesNothing(q, "the same data", () -> q.setData(0, 0), LoadStoreQueue.ALREADY);
        c.changesNothing(q, "other data", () -> q.setData(0, 1), LoadStoreQueue.ALREADY);
    }

    private static void windowInOrderOfEntering(Checks c) {
        LoadStoreQueue q = new LoadStoreQueue(4, 1, 16);
        for (int pc = 0; pc < 4; pc++) {
            Fixtures.load(q, pc, 1, pc);
        }
        // The order in which loads are executed is not the order of the window.
        q.execute(3);
        q.execute(0);
        pcsAre(c, q, 0, 1, 2, 3);
        q.commit();
        pcsAre(c, q, 1, 2, 3);
        q.discard(1);
        pcsAre(c, q, 1);
        Fixtures.bareStore(q, 9, 1);
        Fixtures.bareLoad(q, 8, 1);
        pcsAre(c, q, 1, 9, 8);
        q.discard(0);
        pcsAre(c, q);
    }

    private static void pcsAre(Checks c, LoadStoreQueue q, int... pcs) {
        c.due("count()", q.count(), pcs.length);
        for (int p = 0; p < pcs.length; p++) {
            c.due("pc at " + p, q.describe(p) / 32, pcs[p]);
        }
        c.due("describe at the end", q.describe(pcs.length), LoadStoreQueue.NO_OP);
    }

    private static void firstAndLastPosition(Checks c) {
        for (int size : new int[] {4, 32}) {
            LoadStoreQueue q = new LoadStoreQueue(size, 1, 64);
            for (int n = 1; n <= size; n++) {
                c.due("enter", Fixtures.load(q, n % 16, 1, n), n - 1);
                c.due("the oldest", q.address(0), 1);
                c.due("the youngest", q.address(q.count() - 1), n);
                c.due("above the youngest", q.address(q.count()), LoadStoreQueue.NO_OP);
            }
            q.execute(0);
            c.due("the oldest leaves first", q.commit(), 4);
            c.due("the next is the oldest", q.address(0), 2);
            c.due("the youngest stays", q.address(q.count() - 1), size);
        }
    }

    private static void positionsGoDown(Checks c) {
        LoadStoreQueue q = new LoadStoreQueue(32, 8, 64);
        for (int p = 0; p < 32; p++) {
            if (p % 2 == 0) {
                Fixtures.store(q, p % 16, 1, p, p);
            } else {
                Fixtures.executedLoad(q, p % 16, 1, p);
            }
        }
        for (int gone = 1; gone <= 16; gone++) {
            q.commit();
            c.due("count()", q.count(), 32 - gone);
            for (int p = 0; p < 32 - gone; p++) {
                c.due("address(" + p + ") after " + gone, q.address(p), p + gone);
            }
            c.due("no longer a position", q.address(32 - gone), LoadStoreQueue.NO_OP);
        }
    }

    private static void olderIsByEntering(Checks c) {
        // Whichever address comes last, the store entered last is the younger.
        for (int last = 0; last <= 1; last++) {
            LoadStoreQueue q = new LoadStoreQueue(8, 1, 16);
            Fixtures.bareStore(q, 1, 1);
            Fixtures.bareStore(q, 2, 1);
            Fixtures.load(q, 3, 1, 5);
            q.setData(0, 79);
            q.setData(1, 80);
            q.setAddress(1 - last, 5);
            q.setAddress(last, 5);
            q.execute(2);
            c.due("from the younger", q.value(2), 80);
        }
        // A load entered before a store is older, wherever both stood when the window was fuller.
        LoadStoreQueue q = new LoadStoreQueue(4, 1, 16);
        Fixtures.executedLoad(q, 1, 1, 0);
        Fixtures.executedLoad(q, 2, 1, 5);
        Fixtures.bareStore(q, 3, 1);
        q.discard(2);
        Fixtures.bareStore(q, 4, 1);
        Fixtures.executedLoad(q, 5, 1, 5);
        q.commit();
        c.due("only the younger load is sent back", q.setAddress(1, 5), 1);
        c.due("the older load", q.value(0), 16);
        c.due("the younger load", q.value(2), LoadStoreQueue.NOT_READY);
    }

    private static void bufferInOrderOfCommit(Checks c) {
        LoadStoreQueue q = new LoadStoreQueue(32, 8, 16);
        for (int i = 0; i < 8; i++) {
            Fixtures.store(q, i, 1, 3, 100 + i);
            Fixtures.executedLoad(q, i, 1, 3);
        }
        c.due("in the window only", q.pending(), 0);
        for (int i = 0; i < 8; i++) {
            c.due("the store", q.commit(), LoadStoreQueue.STORE_DONE);
            c.due("the load", q.commit(), 100 + i);
            c.due("pending()", q.pending(), i + 1);
        }
        for (int n = 1; n <= 8; n++) {
            c.due("memory(3, " + n + ")", q.memory(3, n), 99 + n);
        }
        for (int i = 0; i < 8; i++) {
            q.drain();
            c.due("drained", q.memory(3, 0), 100 + i);
            c.due("pending()", q.pending(), 7 - i);
        }
    }

    private static void bufferIsOlder(Checks c) {
        LoadStoreQueue q = new LoadStoreQueue(4, 2, 16);
        Fixtures.store(q, 1, 1, 5, 60);
        Fixtures.store(q, 2, 1, 5, 70);
        Fixtures.load(q, 3, 1, 5);
        q.commit();
        q.execute(1);
        c.due("the store in the window hides the buffer", q.value(1), 70);
        Fixtures.bareStore(q, 4, 1);
        Fixtures.executedLoad(q, 5, 1, 5);
        q.commit();
        c.due("a committed store hides no store of the window", q.setAddress(1, 5), 1);
        c.due("whose data are due now", q.execute(2), LoadStoreQueue.NO_DATA);
    }

    private static void sourceIsYoungestOlderStore(Checks c) {
        LoadStoreQueue q = new LoadStoreQueue(8, 1, 16);
        Fixtures.store(q, 1, 1, 5, 50);
        Fixtures.store(q, 2, 1, 5, 60);
        Fixtures.bareStore(q, 3, 1);
        q.setData(2, 70);
        Fixtures.store(q, 4, 1, 6, 80);
        Fixtures.store(q, 5, 1, 4, 90);
        Fixtures.load(q, 6, 1, 5);
        Fixtures.store(q, 7, 1, 5, 100);
        q.execute(5);
        c.due("not the oldest, nor one without address, beside c or younger", q.value(5), 60);
        c.due("an older store that gets its address is the youngest now", q.setAddress(2, 5), 1);
        q.execute(5);
        c.due("and gives the byte", q.value(5), 70);
    }

    private static void sourceMayLackData(Checks c) {
        LoadStoreQueue q = new LoadStoreQueue(8, 1, 16);
        Fixtures.store(q, 1, 1, 5, 50);
        Fixtures.bareStore(q, 2, 1);
        Fixtures.executedLoad(q, 3, 1, 5);
        c.due("a store without data becomes the source", q.setAddress(1, 5), 1);
        c.changesNothing(q, "the older store with data is none", () -> q.execute(2), LoadStoreQueue.NO_DATA);
        q.setData(1, 60);
        q.execute(2);
        c.due("the value", q.value(2), 60);
    }

    private static void sourceIsBufferAndMemory(Checks c) {
        LoadStoreQueue q = new LoadStoreQueue(8, 8, 16);
        Fixtures.executedLoad(q, 1, 4, 4);
        c.due("empty buffer", q.value(0), 0x1613100DL);
        q.discard(0);
        Fixtures.buffered(q, 4, 4, 0x11111111);
        Fixtures.buffered(q, 2, 6, 0x2222);
        Fixtures.buffered(q, 1, 7, 0x33);
        Fixtures.buffered(q, 1, 8, 0x44);
        Fixtures.executedLoad(q, 1, 4, 4);
        c.due("the whole buffer counts", q.value(0), 0x33221111L);
        q.drain();
        q.drain();
        Fixtures.executedLoad(q, 1, 4, 5);
        c.due("half in memory, half in the buffer", q.value(1), 0x44332211L);
        q.drain();
        q.drain();
        Fixtures.executedLoad(q, 1, 4, 5);
        c.due("all in memory", q.value(2), 0x44332211L);
    }

    private static void eachByteItsSource(Checks c) {
        LoadStoreQueue q = new LoadStoreQueue(8, 2, 16);
        Fixtures.buffered(q, 2, 6, 0xB7B6);
        Fixtures.store(q, 1, 4, 1, 0x14131211);
        Fixtures.store(q, 2, 2, 5, 0x2625);
        Fixtures.load(q, 3, 4, 4);
        Fixtures.load(q, 3, 4, 5);
        c.due("executeReady()", q.executeReady(), 2);
        c.due("14 of store 0, 25 and 26 of store 1, B7 of the buffer", q.value(2), 0xB7262514L);
        c.due("25 and 26 of store 1, B7 of the buffer, 25 of memory", q.value(3), 0x19B72625L);
        Fixtures.bareStore(q, 4, 1);
        q.setAddress(4, 7);
        Fixtures.load(q, 3, 4, 4);
        c.due("one source of four lacks data", q.execute(5), LoadStoreQueue.NO_DATA);
        q.setData(4, 0xEE);
        c.due("then none", q.execute(5), LoadStoreQueue.OK);
        c.due("with EE of store 4", q.value(5), 0xEE262514L);
    }

    private static void eachTimeAPair(Checks c) {
        LoadStoreQueue q = new LoadStoreQueue(8, 2, 16);
        Fixtures.bareStore(q, 1, 1);
        Fixtures.bareStore(q, 2, 1);
        Fixtures.executedLoad(q, 3, 2, 4);
        q.setData(1, 0);
        q.setAddress(1, 4);
        c.due("the first pair", q.sameSet(3, 2) * 10 + q.sameSet(3, 1), 10);
        q.execute(2);
        q.setAddress(0, 5);
        c.due("the second pair of the same load", q.sameSet(3, 2) * 10 + q.sameSet(3, 1), 11);
        String sets = Checks.sets(q);
        q.setData(0, 0);
        q.executeReady();
        q.commit();
        q.commit();
        q.commit();
        q.drain();
        Fixtures.bareLoad(q, 4, 1);
        q.discard(0);
        c.same("the sets after all else", Checks.sets(q), sets);
        q.clearSets();
        c.due("until clearSets()", q.sameSet(3, 2) + q.sameSet(3, 1) + q.sameSet(3, 3), 0);
    }

    private static void pairsWithoutDirection(Checks c) {
        LoadStoreQueue q = new LoadStoreQueue(4, 1, 16);
        Fixtures.pair(q, 2, 1);
        c.due("sameSet(1, 2)", q.sameSet(1, 2), 1);
        c.due("sameSet(2, 1)", q.sameSet(2, 1), 1);
        Fixtures.bareStore(q, 2, 1);
        Fixtures.load(q, 1, 1, 0);
        c.due("the load's pc on a store, the store's on a load", q.execute(1), LoadStoreQueue.PREDICTED);
        q.discard(0);
        Fixtures.pair(q, 3, 1);
        c.due("two loads of one store", q.sameSet(2, 3), 1);
        Fixtures.pair(q, 5, 6);
        Fixtures.pair(q, 5, 7);
        c.due("two stores of one load", q.sameSet(6, 7), 1);
    }

    private static void pairOfEqualPcs(Checks c) {
        for (int pc : new int[] {0, 9, 15}) {
            LoadStoreQueue q = new LoadStoreQueue(4, 1, 16);
            Fixtures.bareStore(q, pc, 1);
            Fixtures.executedLoad(q, pc, 1, 3);
            c.due("sent back", q.setAddress(0, 3), 1);
            for (int a = 0; a < 16; a++) {
                for (int b = 0; b < 16; b++) {
                    c.due("sameSet(" + a + ", " + b + ")", q.sameSet(a, b), a == pc && b == pc ? 1 : 0);
                }
            }
            q.discard(0);
            Fixtures.bareStore(q, pc, 1);
            Fixtures.load(q, pc, 1, 3);
            c.due("predicted", q.execute(1), LoadStoreQueue.PREDICTED);
        }
    }

    private static void chains(Checks c) {
        LoadStoreQueue q = new LoadStoreQueue(4, 1, 16);
        // The odd links come first, so that each even link joins two sets.
        for (int first = 1; first >= 0; first--) {
            for (int pc = first; pc < 15; pc += 2) {
                Fixtures.pair(q, pc, pc + 1);
            }
        }
        for (int a = 0; a < 16; a++) {
            for (int b = 0; b < 16; b++) {
                c.due("a chain of 15 pairs: sameSet(" + a + ", " + b + ")", q.sameSet(a, b), 1);
            }
        }
        q.clearSets();
        for (int pc = 0; pc < 15; pc++) {
            if (pc != 7) {
                Fixtures.pair(q, pc + 1, pc);
            }
        }
        for (int a = 0; a < 16; a++) {
            for (int b = 0; b < 16; b++) {
                c.due("a chain without its middle: sameSet(" + a + ", " + b + ")", q.sameSet(a, b),
                        a <= 7 == b <= 7 ? 1 : 0);
            }
        }
    }

    private static void sameSetAsItself(Checks c) {
        LoadStoreQueue q = new LoadStoreQueue(4, 1, 16);
        for (int pc = 0; pc < 16; pc++) {
            c.due("no pair: sameSet(" + pc + ", " + pc + ")", q.sameSet(pc, pc), 0);
        }
        Fixtures.pair(q, 4, 0);
        Fixtures.pair(q, 15, 15);
        for (int pc = 0; pc < 16; pc++) {
            boolean occurs = pc == 0 || pc == 4 || pc == 15;
            c.due("sameSet(" + pc + ", " + pc + ")", q.sameSet(pc, pc), occurs ? 1 : 0);
        }
        Fixtures.bareStore(q, 9, 1);
        Fixtures.load(q, 9, 1, 3);
        c.due("a pc in no pair does not wait for itself", q.execute(1), LoadStoreQueue.OK);
    }

    private static void noSuchPosition(Checks c) {
        for (int count : new int[] {1, 3, 4}) {
            LoadStoreQueue q = new LoadStoreQueue(4, 1, 16);
            for (int p = 0; p < count; p++) {
                Fixtures.store(q, p, 1, p, p);
            }
            for (int p : Fixtures.noPositions(q)) {
                everyCallRefuses(c, q, p);
            }
            for (int p : new int[] {0, count - 1}) {
                c.due("setAddress(" + p + ", 0)", q.setAddress(p, 0), LoadStoreQueue.ALREADY);
                c.due("setData(" + p + ", 0)", q.setData(p, 0), LoadStoreQueue.ALREADY);
                c.due("execute(" + p + ")", q.execute(p), LoadStoreQueue.BAD_KIND);
                c.due("describe(" + p + ")", q.describe(p), p * 32 + 7);
                c.due("address(" + p + ")", q.address(p), p);
                c.due("value(" + p + ")", q.value(p), p);
            }
            c.due("discard of the youngest", q.discard(count - 1), 1);
        }
    }

    private static void everyCallRefuses(Checks c, LoadStoreQueue q, int p) {
        int none = LoadStoreQueue.NO_OP;
        c.changesNothing(q, "setAddress(" + p + ", 0)", () -> q.setAddress(p, 0), none);
        c.changesNothing(q, "setData(" + p + ", 0)", () -> q.setData(p, 0), none);
        c.changesNothing(q, "execute(" + p + ")", () -> q.execute(p), none);
        c.changesNothing(q, "discard(" + p + ")", () -> q.discard(p), none);
        c.changesNothing(q, "describe(" + p + ")", () -> q.describe(p), none);
        c.changesNothing(q, "address(" + p + ")", () -> q.address(p), none);
        c.changesNothing(q, "value(" + p + ")", () -> q.value(p), none);
    }

    private static void emptyWindow(Checks c) {
        LoadStoreQueue fresh = new LoadStoreQueue(4, 1, 16);
        LoadStoreQueue committed = new LoadStoreQueue(4, 1, 16);
        Fixtures.buffered(committed, 4, 4, -1);
        LoadStoreQueue discarded = new LoadStoreQueue(4, 1, 16);
        Fixtures.executedLoad(discarded, 1, 4, 4);
        Fixtures.bareStore(discarded, 2, 4);
        discarded.discard(0);
        for (LoadStoreQueue q : new LoadStoreQueue[] {fresh, committed, discarded}) {
            c.due("count()", q.count(), 0);
            for (int p = -35; p <= 35; p++) {
                everyCallRefuses(c, q, p);
            }
            everyCallRefuses(c, q, Integer.MIN_VALUE);
            everyCallRefuses(c, q, Integer.MAX_VALUE);
        }
    }
}
