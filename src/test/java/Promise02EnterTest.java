/** Promise 2: enter. */
public final class Promise02EnterTest {
    public static void main(String[] args) {
        Checks c = new Checks();
        ordinary(c);
        wrongInputs(c);
        orderOfRefusals(c);
        nothingElseChanges(c);
        aNewOperationIsFresh(c);
        c.end();
    }

    private static void ordinary(Checks c) {
        LoadStoreQueue q = new LoadStoreQueue(32, 1, 8);
        int[] sizes = {1, 2, 4};
        int p = 0;
        for (int kind = 0; kind <= 1; kind++) {
            for (int size : sizes) {
                for (int pc = 0; pc <= 15; pc += 5) {
                    c.due("enter", q.enter(kind, pc, size), p);
                    c.due("describe of it", q.describe(p), pc * 32 + size / 2 * 8 + kind * 4);
                    c.due("address of it", q.address(p), LoadStoreQueue.NO_ADDRESS);
                    c.due("value of it", q.value(p), LoadStoreQueue.NOT_READY);
                    p++;
                    c.due("count", q.count(), p);
                }
            }
        }
    }

    private static void wrongInputs(Checks c) {
        LoadStoreQueue q = Fixtures.busy();
        for (int kind : new int[] {-1, 2, 3, Integer.MIN_VALUE, Integer.MAX_VALUE}) {
            c.changesNothing(q, "enter of kind " + kind, () -> q.enter(kind, 1, 1), LoadStoreQueue.BAD_KIND);
        }
        for (int pc : new int[] {-1, 16, 17, Integer.MIN_VALUE, Integer.MAX_VALUE}) {
            c.changesNothing(q, "enter of pc " + pc, () -> q.enter(0, pc, 1), LoadStoreQueue.BAD_ARGUMENT);
            c.changesNothing(q, "enter of pc " + pc, () -> q.enter(1, pc, 4), LoadStoreQueue.BAD_ARGUMENT);
        }
        for (int size : new int[] {-1, 0, 3, 5, 6, 8, 16, Integer.MIN_VALUE, Integer.MAX_VALUE}) {
            c.changesNothing(q, "enter of size " + size, () -> q.enter(0, 0, size), LoadStoreQueue.BAD_ARGUMENT);
            c.changesNothing(q, "enter of size " + size, () -> q.enter(1, 15, size), LoadStoreQueue.BAD_ARGUMENT);
        }
    }

    private static void orderOfRefusals(Checks c) {
        LoadStoreQueue q = Fixtures.busy();
        c.changesNothing(q, "kind before pc", () -> q.enter(2, 16, 1), LoadStoreQueue.BAD_KIND);
        c.changesNothing(q, "kind before size", () -> q.enter(2, 0, 3), LoadStoreQueue.BAD_KIND);
        c.due("the 11th of 12", q.enter(0, 0, 1), 10);
        c.due("the 12th of 12", q.enter(1, 15, 4), 11);
        c.changesNothing(q, "the 13th of 12", () -> q.enter(0, 0, 1), LoadStoreQueue.FULL);
        c.changesNothing(q, "the 13th of 12", () -> q.enter(1, 0, 1), LoadStoreQueue.FULL);
        c.changesNothing(q, "kind before full", () -> q.enter(-1, 0, 1), LoadStoreQueue.BAD_KIND);
        c.changesNothing(q, "pc before full", () -> q.enter(0, 16, 1), LoadStoreQueue.BAD_ARGUMENT);
        c.changesNothing(q, "size before full", () -> q.enter(0, 0, 0), LoadStoreQueue.BAD_ARGUMENT);
        q.commit();
        c.due("enter after room was made", q.enter(0, 0, 1), 11);
        c.changesNothing(q, "and once more", () -> q.enter(0, 0, 1), LoadStoreQueue.FULL);
    }

    private static void nothingElseChanges(Checks c) {
        LoadStoreQueue q = Fixtures.busy();
        String window = Checks.window(q, 0, 10);
        String memory = Checks.memory(q);
        String sets = Checks.sets(q);
        q.enter(1, 6, 4);
        c.same("the other operations", Checks.window(q, 0, 10), window);
        c.same("buffer and memory", Checks.memory(q), memory);
        c.same("the sets", Checks.sets(q), sets);
    }

    // What an operation that has left knew must not show in one that takes its place.
    private static void aNewOperationIsFresh(Checks c) {
        LoadStoreQueue q = new LoadStoreQueue(4, 4, 16);
        for (int round = 0; round < 3; round++) {
            for (int i = 0; i < 4; i++) {
                Fixtures.store(q, i, 4, i, -1);
            }
            if (round == 0) {
                q.discard(0);
            }
            for (int i = 0; i < 4; i++) {
                q.commit();
            }
            for (int i = 0; i < 4; i++) {
                c.due("enter", q.enter((i + round) % 2, i, 2), i);
                c.same("the new one", Checks.operation(q, i),
                        "(" + (i * 32 + 8 + (i + round) % 2 * 4) + " -6 -9)");
            }
            q.discard(0);
            for (int i = 0; i < 4; i++) {
                q.drain();
            }
            Fixtures.load(q, 1, 4, 0);
            Fixtures.load(q, 1, 4, 1);
            q.executeReady();
            q.discard(1);
            q.enter(0, 9, 1);
            c.same("a load in an executed load's place", Checks.operation(q, 1), "(288 -6 -9)");
            q.discard(0);
        }
    }
}
