import java.util.function.LongSupplier;

/** Gathers the answers of one test that are not as due, and reads what can be seen of a queue. */
final class Checks {
    private int wrong = 0;
    private int made = 0;

    void due(String call, long got, long want) {
        same(call, Long.toString(got), Long.toString(want));
    }

    void same(String what, String got, String want) {
        made++;
        if (!got.equals(want)) {
            wrong++;
            System.out.println(what + " answered " + got + ", due is " + want);
        }
    }

    /** The call must give its answer and leave everything as it was. */
    void changesNothing(LoadStoreQueue q, String what, LongSupplier call, long want) {
        String before = all(q);
        due(what, call.getAsLong(), want);
        same("all after " + what, all(q), before);
    }

    /** False also if nothing was checked, which says nothing. */
    boolean allAsDue() {
        return wrong == 0 && made > 0;
    }

    void end() {
        System.out.println(made + " checks, " + wrong + " wrong");
        if (!allAsDue()) {
            System.exit(1);
        }
    }

    static String operation(LoadStoreQueue q, int p) {
        return "(" + q.describe(p) + " " + q.address(p) + " " + q.value(p) + ")";
    }

    static String window(LoadStoreQueue q, int from, int to) {
        StringBuilder text = new StringBuilder();
        for (int p = from; p < to; p++) {
            text.append(operation(q, p));
        }
        return text.toString();
    }

    static String window(LoadStoreQueue q) {
        return q.count() + ":" + window(q, 0, q.count());
    }

    static String memoryAfter(LoadStoreQueue q, int drains) {
        StringBuilder text = new StringBuilder();
        for (int a = -1; a <= 64; a++) {
            text.append(q.memory(a, drains)).append(' ');
        }
        return text.toString();
    }

    /** Memory after each number of drains: this shows the whole buffer, too. */
    static String memory(LoadStoreQueue q) {
        StringBuilder text = new StringBuilder();
        text.append(q.pending()).append(": ");
        for (int n = 0; n <= q.pending(); n++) {
            text.append(memoryAfter(q, n)).append("/ ");
        }
        return text.toString();
    }

    static String sets(LoadStoreQueue q) {
        StringBuilder text = new StringBuilder();
        for (int a = 0; a < 16; a++) {
            for (int b = 0; b < 16; b++) {
                text.append(q.sameSet(a, b));
            }
            text.append(' ');
        }
        return text.toString();
    }

    static String all(LoadStoreQueue q) {
        return window(q) + " | " + memory(q) + " | " + sets(q);
    }
}
