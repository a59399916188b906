/** The sentences of Promise 17, each with a test of its own. */
public final class Edges17SameSetTest {
    public static void main(String[] args) {
        Sentences s = new Sentences();
        s.holds("`sameSet(a, b)` answers `BAD_ARGUMENT` if a or b is below 0 or above 15.",
                Edges17SameSetTest::badPc);
        s.holds("Otherwise it answers 1 if the pcs a and b are in the same set, 0 if not.",
                Edges17SameSetTest::inOrNot);
        s.holds("The order of a and b does not matter.", Edges17SameSetTest::eitherOrder);
        s.holds("For a = b the answer is 1 exactly when that pc occurs in some remembered pair.",
                Edges17SameSetTest::withItself);
        s.holds("The call changes nothing.", Edges17SameSetTest::changesNothing);
        s.end();
    }

    private static void badPc(Checks c) {
        LoadStoreQueue q = new LoadStoreQueue(4, 1, 8);
        Fixtures.pair(q, 0, 15);
        for (int bad : new int[] {Integer.MIN_VALUE, -16, -1, 16, 17, 31, 32, 256, Integer.MAX_VALUE}) {
            for (int good : new int[] {0, 1, 15}) {
                c.changesNothing(q, "(" + bad + ", " + good + ")", () -> q.sameSet(bad, good),
                        LoadStoreQueue.BAD_ARGUMENT);
                c.changesNothing(q, "(" + good + ", " + bad + ")", () -> q.sameSet(good, bad),
                        LoadStoreQueue.BAD_ARGUMENT);
            }
            c.changesNothing(q, "(" + bad + ", " + bad + ")", () -> q.sameSet(bad, bad), LoadStoreQueue.BAD_ARGUMENT);
        }
        c.due("sameSet(0, 15)", q.sameSet(0, 15), 1);
        c.due("sameSet(15, 14)", q.sameSet(15, 14), 0);
    }

    private static void inOrNot(Checks c) {
        LoadStoreQueue q = new LoadStoreQueue(4, 1, 8);
        int[] set = new int[16];
        int[][] pairs = {{1, 2}, {3, 4}, {2, 3}, {15, 0}, {5, 5}, {6, 7}, {7, 0}};
        int[][] sets = {{1, 2, 3, 4}, {15, 0, 6, 7}, {5}};
        for (int[] pair : pairs) {
            Fixtures.pair(q, pair[0], pair[1]);
        }
        for (int i = 0; i < sets.length; i++) {
            for (int pc : sets[i]) {
                set[pc] = i + 1;
            }
        }
        for (int a = 0; a < 16; a++) {
            for (int b = 0; b < 16; b++) {
                c.due("sameSet(" + a + ", " + b + ")", q.sameSet(a, b), set[a] != 0 && set[a] == set[b] ? 1 : 0);
            }
        }
    }

    private static void eitherOrder(Checks c) {
        for (int a = 0; a < 16; a++) {
            for (int b = 0; b < 16; b++) {
                LoadStoreQueue q = new LoadStoreQueue(4, 1, 8);
                Fixtures.pair(q, a, b);
                c.due("pair (" + a + ", " + b + ") asked in order", q.sameSet(a, b), 1);
                c.due("pair (" + a + ", " + b + ") asked the other way", q.sameSet(b, a), 1);
                int other = (a + 1) % 16 == b ? (a + 2) % 16 : (a + 1) % 16;
                c.due("a stranger, in order", q.sameSet(a, other), 0);
                c.due("a stranger, the other way", q.sameSet(other, a), 0);
            }
        }
    }

    private static void withItself(Checks c) {
        for (int load = 0; load < 16; load++) {
            for (int store = 0; store < 16; store++) {
                LoadStoreQueue q = new LoadStoreQueue(4, 1, 8);
                Fixtures.pair(q, load, store);
                for (int pc = 0; pc < 16; pc++) {
                    c.due("pair (" + load + ", " + store + "): sameSet(" + pc + ", " + pc + ")", q.sameSet(pc, pc),
                            pc == load || pc == store ? 1 : 0);
                }
            }
        }
    }

    private static void changesNothing(Checks c) {
        LoadStoreQueue q = Fixtures.busy(c);
        c.changesNothing(q, "sameSet(6, 7)", () -> q.sameSet(6, 7), 1);
        c.changesNothing(q, "sameSet(6, 6)", () -> q.sameSet(6, 6), 1);
        c.changesNothing(q, "sameSet(6, 5)", () -> q.sameSet(6, 5), 0);
        c.changesNothing(q, "sameSet(5, 5)", () -> q.sameSet(5, 5), 0);
        // A load and a store that were asked about are no more dependent for it.
        Fixtures.bareStore(q, 5, 1);
        Fixtures.load(q, 5, 1, 0);
        c.due("execute(11)", q.execute(11), LoadStoreQueue.OK);
    }
}
