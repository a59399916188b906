/** Promise 1: the sizes are clamped, and the start. */
public final class Promise01StartTest {
    private static final int[] GIVEN = {
        Integer.MIN_VALUE, -5, -1, 0, 1, 2, 3, 4, 5, 7, 8, 9, 16, 31, 32, 33, 63, 64, 65, 1000, Integer.MAX_VALUE
    };

    public static void main(String[] args) {
        Checks c = new Checks();
        for (int given : GIVEN) {
            c.due("window of " + given, windowOf(new LoadStoreQueue(given, 3, 20)), clamped(given, 4, 32));
            c.due("buffer of " + given, bufferOf(new LoadStoreQueue(12, given, 20)), clamped(given, 1, 8));
            c.due("memory of " + given, memoryOf(new LoadStoreQueue(12, 3, given)), clamped(given, 8, 64));
        }
        start(c, new LoadStoreQueue(10, 4, 40), 40);
        start(c, new LoadStoreQueue(Integer.MIN_VALUE, Integer.MIN_VALUE, Integer.MIN_VALUE), 8);
        start(c, new LoadStoreQueue(Integer.MAX_VALUE, Integer.MAX_VALUE, Integer.MAX_VALUE), 64);
        objectsAreApart(c);
        constants(c);
        c.end();
    }

    private static int clamped(int given, int least, int greatest) {
        return Math.max(least, Math.min(greatest, given));
    }

    private static int windowOf(LoadStoreQueue q) {
        int entered = 0;
        while (entered < 100 && q.enter(LoadStoreQueue.STORE, 0, 1) == entered) {
            entered++;
        }
        return q.enter(LoadStoreQueue.LOAD, 0, 1) == LoadStoreQueue.FULL ? entered : -1;
    }

    private static int bufferOf(LoadStoreQueue q) {
        int committed = 0;
        Fixtures.store(q, 0, 1, 0, 9);
        while (committed < 100 && q.commit() == LoadStoreQueue.STORE_DONE) {
            committed++;
            Fixtures.store(q, 0, 1, 0, 9);
        }
        return q.commit() == LoadStoreQueue.FULL && q.pending() == committed ? committed : -1;
    }

    private static int memoryOf(LoadStoreQueue q) {
        int cells = 0;
        while (cells < 100 && q.memory(cells, 0) >= 0) {
            cells++;
        }
        q.enter(LoadStoreQueue.LOAD, 0, 1);
        boolean last = q.setAddress(0, cells) == LoadStoreQueue.BAD_ARGUMENT && q.setAddress(0, cells - 1) == 0;
        return last ? cells : -1;
    }

    private static void start(Checks c, LoadStoreQueue q, int cells) {
        c.due("count() at the start", q.count(), 0);
        c.due("pending() at the start", q.pending(), 0);
        for (int a = 0; a < cells; a++) {
            c.due("memory(" + a + ", 0) at the start", q.memory(a, 0), 3 * a + 1);
        }
        c.due("memory past the end", q.memory(cells, 0), LoadStoreQueue.BAD_ARGUMENT);
        for (int a = 0; a < 16; a++) {
            for (int b = 0; b < 16; b++) {
                c.due("sameSet(" + a + ", " + b + ") at the start", q.sameSet(a, b), 0);
            }
        }
    }

    private static void objectsAreApart(Checks c) {
        LoadStoreQueue other = new LoadStoreQueue(12, 3, 24);
        String before = Checks.all(other);
        LoadStoreQueue busy = Fixtures.busy();
        c.same("another object", Checks.all(other), before);
        String after = Checks.all(busy);
        c.same("a new object after a busy one", Checks.all(new LoadStoreQueue(12, 3, 24)), before);
        c.same("the busy one after a new object", Checks.all(busy), after);
    }

    private static void constants(Checks c) {
        int[] got = {
            LoadStoreQueue.LOAD, LoadStoreQueue.STORE, LoadStoreQueue.OK, LoadStoreQueue.NO_OP,
            LoadStoreQueue.BAD_KIND, LoadStoreQueue.BAD_ARGUMENT, LoadStoreQueue.ALREADY, LoadStoreQueue.FULL,
            LoadStoreQueue.NO_ADDRESS, LoadStoreQueue.PREDICTED, LoadStoreQueue.NO_DATA, LoadStoreQueue.NOT_READY,
            LoadStoreQueue.EMPTY, LoadStoreQueue.STORE_DONE
        };
        int[] want = {0, 1, 0, -1, -2, -3, -4, -5, -6, -7, -8, -9, -10, -11};
        for (int i = 0; i < want.length; i++) {
            c.due("constant " + i, got[i], want[i]);
        }
    }
}
