/**
 * All promises at once: long runs of calls, the same each time, held against ModelQueue,
 * with everything that can be seen compared after each call.
 */
public final class AgainstModelTest {
    private static final int RUNS = 400;
    private static final int CALLS = 200;
    private static final int[] SIZES = {1, 2, 4};
    private static final int[] WRONG = {-1, 3, 16, 64, 1000, Integer.MIN_VALUE, Integer.MAX_VALUE};

    // How often each answer came, from -11 (index 0) to 1 (index 12): a run that never
    // meets an answer says nothing of it.
    private static final int[] MET = new int[13];

    private static long state = 0;

    public static void main(String[] args) {
        Checks c = new Checks();
        for (int run = 0; run < RUNS; run++) {
            state = 7919L * run + 1;
            one(c, run);
        }
        for (int i = 0; i < MET.length; i++) {
            c.due("answer " + (i - 11) + " was met (1 for yes)", MET[i] > 0 ? 1 : 0, 1);
        }
        c.end();
    }

    private static void one(Checks c, int run) {
        int window = below(40) - 2;
        int buffer = below(11) - 1;
        int memory = run % 2 == 0 ? 8 + below(5) : below(70);
        int pcs = 1 + below(16);
        LoadStoreQueue q = new LoadStoreQueue(window, buffer, memory);
        ModelQueue m = new ModelQueue(window, buffer, memory);
        int favoured = below(9);
        for (int i = 0; i < CALLS; i++) {
            int call = below(4) == 0 ? favoured : below(9);
            int p = below(12) == 0 ? wrong() : below(m.count() + 1);
            int x = below(14) == 0 ? wrong() : below(Math.max(8, Math.min(64, memory)));
            int pc = below(20) == 0 ? wrong() : below(pcs);
            int size = below(20) == 0 ? wrong() : SIZES[below(3)];
            int kind = below(20) == 0 ? wrong() : below(2);
            int data = below(65536) * 65536 + below(65536);
            int rare = below(10) == 0 ? 1 : 0;
            int[] given = {p, x, pc, size, kind, data, rare};
            long got = onQueue(q, call, given);
            long want = onModel(m, call, given);
            if (want >= -11 && want <= 1) {
                MET[(int) want + 11]++;
            }
            String where = "run " + run + ", call " + i + " (" + call + ")";
            c.due(where, got, want);
            c.same("all after " + where, Checks.all(q), m.all());
        }
    }

    private static long onQueue(LoadStoreQueue q, int call, int[] x) {
        switch (call) {
            case 0: return q.enter(x[4], x[2], x[3]);
            case 1: return q.setAddress(x[0], x[1]);
            case 2: return q.setData(x[0], x[5]);
            case 3: return q.execute(x[0]);
            case 4: return x[6] == 1 ? q.executeReady() : q.execute(x[0]);
            case 5: return q.commit();
            case 6: return q.drain();
            case 7: return x[6] == 1 ? q.discard(x[0]) : q.setAddress(x[0], x[1]);
            default:
                if (x[6] == 1 && x[5] % 3 == 0) {
                    q.clearSets();
                    return 0;
                }
                return q.enter(x[4], x[2], x[3]);
        }
    }

    private static long onModel(ModelQueue m, int call, int[] x) {
        switch (call) {
            case 0: return m.enter(x[4], x[2], x[3]);
            case 1: return m.setAddress(x[0], x[1]);
            case 2: return m.setData(x[0], x[5]);
            case 3: return m.execute(x[0]);
            case 4: return x[6] == 1 ? m.executeReady() : m.execute(x[0]);
            case 5: return m.commit();
            case 6: return m.drain();
            case 7: return x[6] == 1 ? m.discard(x[0]) : m.setAddress(x[0], x[1]);
            default:
                if (x[6] == 1 && x[5] % 3 == 0) {
                    m.clearSets();
                    return 0;
                }
                return m.enter(x[4], x[2], x[3]);
        }
    }

    private static int wrong() {
        return WRONG[below(WRONG.length)];
    }

    private static int below(int bound) {
        state = state * 6364136223846793005L + 1442695040888963407L;
        return (int) ((state >>> 33) % bound);
    }
}
