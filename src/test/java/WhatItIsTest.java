import java.lang.reflect.Field;
import java.util.Map;
import java.util.TreeMap;

/** The sentences of "What it is", each with a test of its own, and its table of constants. */
public final class WhatItIsTest {
    private static final int LOAD = LoadStoreQueue.LOAD;
    private static final int STORE = LoadStoreQueue.STORE;

    // Each order in which three things may come.
    private static final int[][] ORDERS = {{0, 1, 2}, {0, 2, 1}, {1, 0, 2}, {1, 2, 0}, {2, 0, 1}, {2, 1, 0}};

    public static void main(String[] args) {
        Sentences s = new Sentences();
        s.holds("`LoadStoreQueue` is the load-store queue of a processor that runs memory operations out of order.",
                WhatItIsTest::asIfInOrder);
        s.holds("Memory operations are entered in program order;", WhatItIsTest::enteredInProgramOrder);
        s.holds("their addresses and the data of stores come later, in any order.", WhatItIsTest::anyOrder);
        s.holds("A load may be executed while addresses of older stores are still unknown.",
                WhatItIsTest::runsAhead);
        s.holds("When such an address comes and the load has missed that store, the load is sent back (it must be"
                + " executed again) and the two instructions are remembered as dependent.", WhatItIsTest::sentBack);
        s.holds("From then on a load waits for older stores of its set whose addresses are unknown.",
                WhatItIsTest::waits);
        s.holds("Operations leave the window in program order (commit);", WhatItIsTest::commitInOrder);
        s.holds("committed stores wait in a buffer and are written to memory in the same order (drain).",
                WhatItIsTest::drainInOrder);
        s.holds("The young end of the window may be discarded.", WhatItIsTest::youngEnd);
        s.holds("Public constants:", WhatItIsTest::constants);
        s.end();
    }

    // Whatever the order of the addresses and of the executions, the committed loads and the memory at the
    // end are those of a processor that does one operation after the other.
    private static void asIfInOrder(Checks c) {
        for (int[] addresses : ORDERS) {
            for (int from = 0; from <= 3; from++) {
                LoadStoreQueue q = new LoadStoreQueue(8, 2, 16);
                int[] stores = {q.enter(STORE, 1, 4), q.enter(STORE, 2, 2), -1};
                int first = q.enter(LOAD, 3, 4);
                stores[2] = q.enter(STORE, 4, 1);
                int second = q.enter(LOAD, 5, 4);
                int[] at = {4, 6, 5};
                int[] data = {0x44332211, 0x6655, 0x77};
                q.setAddress(first, 4);
                q.setAddress(second, 5);
                for (int n = 0; n < 3; n++) {
                    if (n >= from) {
                        q.executeReady();
                    }
                    q.setAddress(stores[addresses[n]], at[addresses[n]]);
                    q.setData(stores[addresses[n]], data[addresses[n]]);
                }
                q.executeReady();
                c.due("first store", q.commit(), LoadStoreQueue.STORE_DONE);
                c.due("second store", q.commit(), LoadStoreQueue.STORE_DONE);
                c.due("first load", q.commit(), 0x66552211L);
                c.due("drain", q.drain(), LoadStoreQueue.OK);
                c.due("third store", q.commit(), LoadStoreQueue.STORE_DONE);
                c.due("second load", q.commit(), 0x19665577L);
                c.due("drain", q.drain(), LoadStoreQueue.OK);
                c.due("drain", q.drain(), LoadStoreQueue.OK);
                int[] cells = {0x11, 0x77, 0x55, 0x66};
                for (int a = 0; a < 16; a++) {
                    c.due("memory(" + a + ", 0)", q.memory(a, 0), a >= 4 && a < 8 ? cells[a - 4] : 3 * a + 1);
                }
            }
        }
    }

    private static void enteredInProgramOrder(Checks c) {
        LoadStoreQueue q = new LoadStoreQueue(8, 2, 16);
        for (int n = 0; n < 8; n++) {
            c.due("enter", q.enter(n % 3 == 0 ? LOAD : STORE, n, 1), n);
        }
        for (int n = 0; n < 8; n++) {
            c.due("describe(" + n + ")", q.describe(n), n * 32 + (n % 3 == 0 ? 0 : 4));
        }
    }

    private static void anyOrder(Checks c) {
        for (int[] addresses : ORDERS) {
            for (int[] data : ORDERS) {
                for (boolean dataFirst : new boolean[] {true, false}) {
                    LoadStoreQueue q = new LoadStoreQueue(4, 3, 16);
                    for (int p = 0; p < 3; p++) {
                        q.enter(STORE, p, 1);
                    }
                    for (int n = 0; n < 6; n++) {
                        boolean isData = dataFirst == n < 3;
                        int p = (isData ? data : addresses)[n % 3];
                        c.due((isData ? "data of " : "address of ") + p,
                                isData ? q.setData(p, 100 + p) : q.setAddress(p, 9 - p), 0);
                    }
                    for (int p = 0; p < 3; p++) {
                        c.same("store " + p, Checks.operation(q, p),
                                "(" + (p * 32 + 7) + " " + (9 - p) + " " + (100 + p) + ")");
                    }
                }
            }
        }
    }

    private static void runsAhead(Checks c) {
        LoadStoreQueue q = new LoadStoreQueue(4, 1, 16);
        Fixtures.bareStore(q, 1, 4);
        Fixtures.bareStore(q, 2, 1);
        Fixtures.load(q, 3, 2, 4);
        c.due("execute(2)", q.execute(2), LoadStoreQueue.OK);
        c.due("value(2)", q.value(2), 0x100D);
    }

    private static void sentBack(Checks c) {
        LoadStoreQueue q = new LoadStoreQueue(4, 1, 16);
        Fixtures.bareStore(q, 1, 4);
        Fixtures.executedLoad(q, 3, 2, 4);
        Fixtures.executedLoad(q, 5, 2, 8);
        c.due("one has missed the store, one has not", q.setAddress(0, 2), 1);
        c.due("sent back", q.value(1), LoadStoreQueue.NOT_READY);
        c.due("not sent back", q.value(2), 0x1C19);
        c.due("dependent", q.sameSet(3, 1), 1);
        c.due("not dependent", q.sameSet(5, 1), 0);
        q.setData(0, 0x44332211);
        c.due("commit of the store", q.commit(), LoadStoreQueue.STORE_DONE);
        c.due("it must be executed again", q.commit(), LoadStoreQueue.NOT_READY);
        c.due("execute(0)", q.execute(0), LoadStoreQueue.OK);
        c.due("commit()", q.commit(), 0x4433);
    }

    private static void waits(Checks c) {
        LoadStoreQueue q = new LoadStoreQueue(4, 1, 16);
        Fixtures.pair(q, 3, 1);
        Fixtures.bareStore(q, 1, 1);
        Fixtures.load(q, 3, 1, 4);
        Fixtures.load(q, 4, 1, 4);
        Fixtures.bareStore(q, 1, 1);
        c.due("a load of the set", q.execute(1), LoadStoreQueue.PREDICTED);
        c.due("a load of no set", q.execute(2), LoadStoreQueue.OK);
        c.due("the address comes", q.setAddress(0, 9), 0);
        c.due("it waits no more, and not for a younger store", q.execute(1), LoadStoreQueue.OK);
    }

    private static void commitInOrder(Checks c) {
        LoadStoreQueue q = new LoadStoreQueue(4, 2, 16);
        Fixtures.load(q, 1, 1, 1);
        Fixtures.store(q, 2, 1, 2, 200);
        Fixtures.executedLoad(q, 3, 1, 3);
        Fixtures.store(q, 4, 1, 4, 201);
        c.due("younger ones are ready, the oldest is not", q.commit(), LoadStoreQueue.NOT_READY);
        q.execute(0);
        c.due("load of 1", q.commit(), 4);
        c.due("store at 2", q.commit(), LoadStoreQueue.STORE_DONE);
        c.due("load of 3", q.commit(), 10);
        c.due("store at 4", q.commit(), LoadStoreQueue.STORE_DONE);
        c.due("nothing more", q.commit(), LoadStoreQueue.EMPTY);
    }

    private static void drainInOrder(Checks c) {
        LoadStoreQueue q = new LoadStoreQueue(4, 3, 16);
        for (int n = 0; n < 3; n++) {
            Fixtures.buffered(q, 1, 6, 200 + n);
            c.due("they wait: pending()", q.pending(), n + 1);
            c.due("they wait: memory(6, 0)", q.memory(6, 0), 19);
        }
        for (int n = 0; n < 3; n++) {
            c.due("drain()", q.drain(), LoadStoreQueue.OK);
            c.due("memory(6, 0)", q.memory(6, 0), 200 + n);
        }
        c.due("nothing more", q.drain(), LoadStoreQueue.EMPTY);
    }

    private static void youngEnd(Checks c) {
        for (int p = 0; p < 10; p++) {
            LoadStoreQueue q = Fixtures.busy(c);
            String kept = Checks.window(q, 0, p);
            c.due("discard(" + p + ")", q.discard(p), 10 - p);
            c.same("the window", Checks.window(q), p + ":" + kept);
        }
    }

    private static void constants(Checks c) {
        Map<String, Integer> due = new TreeMap<>(Map.of("LOAD", 0, "STORE", 1, "OK", 0));
        due.putAll(Map.of("NO_OP", -1, "BAD_KIND", -2, "BAD_ARGUMENT", -3, "ALREADY", -4, "FULL", -5));
        due.putAll(Map.of("NO_ADDRESS", -6, "PREDICTED", -7, "NO_DATA", -8, "NOT_READY", -9, "EMPTY", -10));
        due.put("STORE_DONE", -11);
        Map<String, Integer> found = new TreeMap<>();
        for (Field field : LoadStoreQueue.class.getFields()) {
            found.put(field.getName(), valueOf(field));
        }
        c.same("the constants", found.toString(), due.toString());
    }

    private static int valueOf(Field field) {
        try {
            return field.getInt(null);
        } catch (IllegalAccessException refused) {
            throw new IllegalStateException(refused);
        }
    }
}
