/** The sentences of Promise 10, each with a test of its own. */
public final class Edges10ClearSetsTest {
    public static void main(String[] args) {
        Sentences s = new Sentences();
        s.holds("`clearSets()` forgets all remembered pairs.", Edges10ClearSetsTest::forgetsAll);
        s.holds("Nothing else changes.", Edges10ClearSetsTest::nothingElseChanges);
        s.holds("After it no two pcs are in the same set, and no pc is in the same set as itself,",
                Edges10ClearSetsTest::noSetIsLeft);
        s.holds("until a pair is remembered again.", Edges10ClearSetsTest::untilAPairComes);
        s.end();
    }

    private static void forgetsAll(Checks c) {
        LoadStoreQueue q = new LoadStoreQueue(8, 1, 16);
        for (int pc = 0; pc < 16; pc += 2) {
            Fixtures.pair(q, pc, pc + 1);
        }
        q.clearSets();
        for (int pc = 0; pc < 16; pc += 2) {
            Fixtures.bareStore(q, pc + 1, 1);
            Fixtures.load(q, pc, 1, 0);
            c.due("no load waits: pc " + pc, q.execute(1), LoadStoreQueue.OK);
            q.discard(0);
        }
    }

    private static void nothingElseChanges(Checks c) {
        LoadStoreQueue q = Fixtures.busy(c);
        String rest = Checks.window(q) + Checks.memory(q);
        q.clearSets();
        c.same("window, buffer and memory", Checks.window(q) + Checks.memory(q), rest);
        LoadStoreQueue fresh = new LoadStoreQueue(4, 1, 8);
        String all = Checks.all(fresh);
        fresh.clearSets();
        c.same("a queue without pairs", Checks.all(fresh), all);
    }

    private static void noSetIsLeft(Checks c) {
        LoadStoreQueue q = new LoadStoreQueue(8, 1, 16);
        for (int pc = 0; pc < 15; pc++) {
            Fixtures.pair(q, pc, pc + 1);
        }
        Fixtures.pair(q, 3, 3);
        for (int times = 0; times < 2; times++) {
            q.clearSets();
            for (int a = 0; a < 16; a++) {
                for (int b = 0; b < 16; b++) {
                    c.due("sameSet(" + a + ", " + b + ")", q.sameSet(a, b), 0);
                }
            }
        }
    }

    private static void untilAPairComes(Checks c) {
        LoadStoreQueue q = new LoadStoreQueue(8, 1, 16);
        for (int pc = 0; pc < 15; pc++) {
            Fixtures.pair(q, pc, pc + 1);
        }
        q.clearSets();
        Fixtures.pair(q, 4, 9);
        for (int a = 0; a < 16; a++) {
            for (int b = 0; b < 16; b++) {
                boolean in = (a == 4 || a == 9) && (b == 4 || b == 9);
                c.due("sameSet(" + a + ", " + b + ")", q.sameSet(a, b), in ? 1 : 0);
            }
        }
        Fixtures.bareStore(q, 9, 1);
        Fixtures.load(q, 4, 1, 0);
        c.due("the new pair predicts", q.execute(1), LoadStoreQueue.PREDICTED);
    }
}
