/** Promise 17: sameSet. */
public final class Promise17SameSetTest {
    public static void main(String[] args) {
        Checks c = new Checks();
        refusals(c);
        selfAndPairs(c);
        chains(c);
        everyPair(c);
        c.end();
    }

    private static void refusals(Checks c) {
        LoadStoreQueue q = Fixtures.busy();
        for (int bad : new int[] {-1, 16, 17, Integer.MIN_VALUE, Integer.MAX_VALUE}) {
            c.changesNothing(q, "sameSet(" + bad + ", 0)", () -> q.sameSet(bad, 0), LoadStoreQueue.BAD_ARGUMENT);
            c.changesNothing(q, "sameSet(15, " + bad + ")", () -> q.sameSet(15, bad), LoadStoreQueue.BAD_ARGUMENT);
            c.changesNothing(q, "sameSet(" + bad + ", same)", () -> q.sameSet(bad, bad), LoadStoreQueue.BAD_ARGUMENT);
        }
        c.changesNothing(q, "sameSet(0, 15)", () -> q.sameSet(0, 15), 0);
        c.changesNothing(q, "sameSet(6, 7)", () -> q.sameSet(6, 7), 1);
    }

    private static void selfAndPairs(Checks c) {
        LoadStoreQueue q = new LoadStoreQueue(4, 1, 8);
        Fixtures.pair(q, 0, 15);
        c.due("either order", q.sameSet(0, 15) * 10 + q.sameSet(15, 0), 11);
        c.due("each with itself", q.sameSet(0, 0) * 10 + q.sameSet(15, 15), 11);
        c.due("others not", q.sameSet(1, 1) + q.sameSet(0, 1) + q.sameSet(14, 15), 0);
        Fixtures.pair(q, 5, 5);
        c.due("a pair of equal pcs", q.sameSet(5, 5), 1);
        c.due("is apart", q.sameSet(5, 0) + q.sameSet(5, 15) + q.sameSet(5, 4), 0);
        Fixtures.pair(q, 5, 0);
        c.due("until it is joined", q.sameSet(5, 15), 1);
    }

    private static void chains(Checks c) {
        LoadStoreQueue q = new LoadStoreQueue(4, 1, 8);
        Fixtures.pair(q, 1, 2);
        Fixtures.pair(q, 3, 4);
        Fixtures.pair(q, 6, 5);
        c.due("apart", q.sameSet(1, 3) + q.sameSet(2, 4) + q.sameSet(4, 5) + q.sameSet(1, 6), 0);
        Fixtures.pair(q, 4, 2);
        c.due("two joined", q.sameSet(1, 3) * 10 + q.sameSet(2, 4), 11);
        c.due("the third apart", q.sameSet(3, 5) + q.sameSet(1, 6), 0);
        Fixtures.pair(q, 5, 1);
        c.due("three joined", q.sameSet(6, 3) * 10 + q.sameSet(4, 6), 11);
        c.due("the others not", q.sameSet(0, 0) + q.sameSet(7, 7) + q.sameSet(0, 7) + q.sameSet(6, 7), 0);
    }

    private static void everyPair(Checks c) {
        for (int a = 0; a < 16; a++) {
            for (int b = 0; b < 16; b++) {
                LoadStoreQueue q = new LoadStoreQueue(4, 1, 8);
                Fixtures.pair(q, a, b);
                for (int x = 0; x < 16; x++) {
                    for (int y = 0; y < 16; y++) {
                        boolean in = (x == a || x == b) && (y == a || y == b);
                        c.due("pair " + a + ", " + b + ": sameSet(" + x + ", " + y + ")", q.sameSet(x, y), in ? 1 : 0);
                    }
                }
            }
        }
    }
}
