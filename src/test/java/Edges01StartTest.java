/** The sentences of Promise 1, each with a test of its own. */
public final class Edges01StartTest {
    private static final int[] OUTER = {Integer.MIN_VALUE, -1, 0, 1000, Integer.MAX_VALUE};

    public static void main(String[] args) {
        Sentences s = new Sentences();
        s.holds("accepts every int for each argument and clamps each one: below the least becomes the least, above"
                + " the greatest becomes the greatest.", Edges01StartTest::everyIntIsAccepted);
        s.holds("`windowSize`: the most operations in the window, clamped into 4..32.", Edges01StartTest::windowSize);
        s.holds("`bufferSize`: the most stores in the buffer, clamped into 1..8.", Edges01StartTest::bufferSize);
        s.holds("`memorySize`: the number of memory cells, clamped into 8..64.", Edges01StartTest::memorySize);
        s.holds("At the start the window and the buffer are empty,", Edges01StartTest::startsEmpty);
        s.holds("no pair is remembered,", Edges01StartTest::startsWithoutPairs);
        s.holds("and every cell a holds 3\\*a+1.", Edges01StartTest::startOfMemory);
        s.end();
    }

    private static void everyIntIsAccepted(Checks c) {
        for (int window : OUTER) {
            for (int buffer : OUTER) {
                for (int memory : OUTER) {
                    String what = " of (" + window + ", " + buffer + ", " + memory + ")";
                    c.due("window" + what, windowOf(new LoadStoreQueue(window, buffer, memory)), window < 4 ? 4 : 32);
                    c.due("buffer" + what, bufferOf(new LoadStoreQueue(window, buffer, memory)), buffer < 1 ? 1 : 8);
                    c.due("memory" + what, memoryOf(new LoadStoreQueue(window, buffer, memory)), memory < 8 ? 8 : 64);
                }
            }
        }
    }

    private static void windowSize(Checks c) {
        int[] given = {3, 4, 5, 31, 32, 33};
        int[] want = {4, 4, 5, 31, 32, 32};
        for (int i = 0; i < given.length; i++) {
            c.due("window of " + given[i], windowOf(new LoadStoreQueue(given[i], 2, 20)), want[i]);
        }
    }

    private static void bufferSize(Checks c) {
        int[] given = {0, 1, 2, 7, 8, 9};
        int[] want = {1, 1, 2, 7, 8, 8};
        for (int i = 0; i < given.length; i++) {
            c.due("buffer of " + given[i], bufferOf(new LoadStoreQueue(10, given[i], 20)), want[i]);
        }
    }

    private static void memorySize(Checks c) {
        int[] given = {7, 8, 9, 63, 64, 65};
        int[] want = {8, 8, 9, 63, 64, 64};
        for (int i = 0; i < given.length; i++) {
            c.due("memory of " + given[i], memoryOf(new LoadStoreQueue(10, 2, given[i])), want[i]);
            LoadStoreQueue q = new LoadStoreQueue(10, 2, given[i]);
            Fixtures.bareStore(q, 0, 4);
            c.due("past the end", q.setAddress(0, want[i] - 3), LoadStoreQueue.BAD_ARGUMENT);
            c.due("up to the end", q.setAddress(0, want[i] - 4), 0);
        }
    }

    private static int windowOf(LoadStoreQueue q) {
        int entered = 0;
        while (entered < 100 && Fixtures.bareLoad(q, 0, 1) == entered) {
            entered++;
        }
        return entered;
    }

    private static int bufferOf(LoadStoreQueue q) {
        int committed = 0;
        Fixtures.store(q, 0, 1, 0, 0);
        while (committed < 100 && q.commit() == LoadStoreQueue.STORE_DONE) {
            committed++;
            Fixtures.store(q, 0, 1, 0, 0);
        }
        return committed;
    }

    private static int memoryOf(LoadStoreQueue q) {
        int cells = 0;
        while (cells < 100 && q.memory(cells, 0) != LoadStoreQueue.BAD_ARGUMENT) {
            cells++;
        }
        return cells;
    }

    private static void startsEmpty(Checks c) {
        LoadStoreQueue q = new LoadStoreQueue(32, 8, 64);
        c.due("count()", q.count(), 0);
        c.due("describe(0)", q.describe(0), LoadStoreQueue.NO_OP);
        c.due("commit()", q.commit(), LoadStoreQueue.EMPTY);
        c.due("pending()", q.pending(), 0);
        c.due("memory(0, 1)", q.memory(0, 1), LoadStoreQueue.BAD_ARGUMENT);
        c.due("drain()", q.drain(), LoadStoreQueue.EMPTY);
    }

    private static void startsWithoutPairs(Checks c) {
        for (int pc = 0; pc < 16; pc++) {
            for (int other = 0; other < 16; other++) {
                LoadStoreQueue q = new LoadStoreQueue(4, 1, 8);
                c.due("sameSet(" + pc + ", " + other + ")", q.sameSet(pc, other), 0);
                Fixtures.bareStore(q, other, 1);
                Fixtures.load(q, pc, 1, 0);
                c.due("no load waits", q.execute(1), LoadStoreQueue.OK);
            }
        }
    }

    private static void startOfMemory(Checks c) {
        for (int cells : new int[] {8, 9, 63, 64}) {
            LoadStoreQueue q = new LoadStoreQueue(4, 1, cells);
            for (int a = 0; a < cells; a++) {
                c.due("memory(" + a + ", 0)", q.memory(a, 0), 3 * a + 1);
                Fixtures.executedLoad(q, 0, 1, a);
                c.due("a load of " + a, q.commit(), 3 * a + 1);
            }
        }
    }
}
