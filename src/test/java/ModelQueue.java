import java.util.ArrayList;
import java.util.List;

/**
 * The document once more, in the most literal way and with the Java library, to hold the class against.
 * It keeps pairs, not sets, and works out sources, sets and drained memory anew each time.
 */
final class ModelQueue {
    private static final class Operation {
        final int kind;
        final int pc;
        final int size;
        Integer address;
        /** The data of a store or the value of an executed load. */
        Long bytes;

        Operation(int kind, int pc, int size) {
            this.kind = kind;
            this.pc = pc;
            this.size = size;
        }

        boolean isStore() {
            return kind == 1;
        }

        void writeTo(int[] cells) {
            for (int i = 0; i < size; i++) {
                cells[address + i] = (int) (bytes / (1L << 8 * i) % 256);
            }
        }
    }

    private final int windowSize;
    private final int bufferSize;
    private final int[] cells;
    private final List<Operation> window = new ArrayList<>();
    private final List<Operation> buffer = new ArrayList<>();
    private final List<int[]> pairs = new ArrayList<>();

    ModelQueue(int windowSize, int bufferSize, int memorySize) {
        this.windowSize = Math.max(4, Math.min(32, windowSize));
        this.bufferSize = Math.max(1, Math.min(8, bufferSize));
        this.cells = new int[Math.max(8, Math.min(64, memorySize))];
        for (int a = 0; a < cells.length; a++) {
            cells[a] = 3 * a + 1;
        }
    }

    int enter(int kind, int pc, int size) {
        if (kind != 0 && kind != 1) {
            return -2;
        }
        if (pc < 0 || pc > 15 || !List.of(1, 2, 4).contains(size)) {
            return -3;
        }
        if (window.size() == windowSize) {
            return -5;
        }
        window.add(new Operation(kind, pc, size));
        return window.size() - 1;
    }

    int setAddress(int p, int address) {
        if (missing(p)) {
            return -1;
        }
        Operation operation = window.get(p);
        if (operation.address != null) {
            return -4;
        }
        if (address < 0 || address > cells.length - operation.size) {
            return -3;
        }
        operation.address = address;
        int sentBack = 0;
        for (Operation load : window) {
            if (operation.isStore() && !load.isStore() && load.bytes != null
                    && sourcesOf(load).contains(operation)) {
                load.bytes = null;
                pairs.add(new int[] {load.pc, operation.pc});
                sentBack++;
            }
        }
        return sentBack;
    }

    int setData(int p, int data) {
        if (missing(p)) {
            return -1;
        }
        Operation operation = window.get(p);
        if (!operation.isStore()) {
            return -2;
        }
        if (operation.bytes != null) {
            return -4;
        }
        operation.bytes = Math.floorMod((long) data, 1L << 8 * operation.size);
        return 0;
    }

    int execute(int p) {
        if (missing(p)) {
            return -1;
        }
        Operation load = window.get(p);
        if (load.isStore()) {
            return -2;
        }
        if (load.bytes != null) {
            return -4;
        }
        if (load.address == null) {
            return -6;
        }
        boolean[][] same = sameSets();
        for (Operation older : window.subList(0, p)) {
            if (older.isStore() && older.address == null && same[older.pc][load.pc]) {
                return -7;
            }
        }
        for (Operation source : sourcesOf(load)) {
            if (source != null && source.bytes == null) {
                return -8;
            }
        }
        load.bytes = valueOf(load, p);
        return 0;
    }

    int executeReady() {
        int executed = 0;
        for (int p = 0; p < window.size(); p++) {
            executed += execute(p) == 0 ? 1 : 0;
        }
        return executed;
    }

    long commit() {
        if (window.isEmpty()) {
            return -10;
        }
        Operation oldest = window.get(0);
        if (!oldest.isStore()) {
            if (oldest.bytes == null) {
                return -9;
            }
            return window.remove(0).bytes;
        }
        if (oldest.address == null || oldest.bytes == null) {
            return -9;
        }
        if (buffer.size() == bufferSize) {
            return -5;
        }
        buffer.add(window.remove(0));
        return -11;
    }

    int drain() {
        if (buffer.isEmpty()) {
            return -10;
        }
        buffer.remove(0).writeTo(cells);
        return 0;
    }

    int discard(int p) {
        if (missing(p)) {
            return -1;
        }
        int removed = window.size() - p;
        window.subList(p, window.size()).clear();
        return removed;
    }

    void clearSets() {
        pairs.clear();
    }

    /** In the form of Checks.all. */
    String all() {
        StringBuilder text = new StringBuilder();
        text.append(window.size()).append(':');
        for (Operation operation : window) {
            int s = List.of(1, 2, 4).indexOf(operation.size);
            int described = operation.pc * 32 + s * 8 + operation.kind * 4
                    + (operation.address != null ? 2 : 0) + (operation.bytes != null ? 1 : 0);
            text.append("(" + described + " " + (operation.address != null ? operation.address : -6)
                    + " " + (operation.bytes != null ? operation.bytes : -9) + ")");
        }
        text.append(" | ").append(buffer.size()).append(": ");
        for (int n = 0; n <= buffer.size(); n++) {
            int[] drained = drained(n);
            for (int a = -1; a <= 64; a++) {
                text.append(a >= 0 && a < drained.length ? drained[a] : -3).append(' ');
            }
            text.append("/ ");
        }
        text.append(" | ");
        for (boolean[] row : sameSets()) {
            for (boolean same : row) {
                text.append(same ? 1 : 0);
            }
            text.append(' ');
        }
        return text.toString();
    }

    int count() {
        return window.size();
    }

    private boolean missing(int p) {
        return p < 0 || p >= window.size();
    }

    /** One entry for each byte of the load; null stands for the buffer and memory. */
    private List<Operation> sourcesOf(Operation load) {
        List<Operation> sources = new ArrayList<>();
        for (int i = 0; i < load.size; i++) {
            int cell = load.address + i;
            Operation source = null;
            for (Operation older : window.subList(0, window.indexOf(load))) {
                if (older.isStore() && older.address != null
                        && older.address <= cell && cell <= older.address + older.size - 1) {
                    source = older;
                }
            }
            sources.add(source);
        }
        return sources;
    }

    /** What the load would read if the buffer and then all older stores that can matter were written first. */
    private long valueOf(Operation load, int p) {
        int[] written = drained(buffer.size());
        for (Operation older : window.subList(0, p)) {
            if (older.isStore() && older.address != null && older.bytes != null) {
                older.writeTo(written);
            }
        }
        long value = 0;
        for (int i = load.size - 1; i >= 0; i--) {
            value = value * 256 + written[load.address + i];
        }
        return value;
    }

    private int[] drained(int n) {
        int[] copy = cells.clone();
        for (Operation store : buffer.subList(0, n)) {
            store.writeTo(copy);
        }
        return copy;
    }

    private boolean[][] sameSets() {
        boolean[][] reach = new boolean[16][16];
        for (int[] pair : pairs) {
            reach[pair[0]][pair[1]] = true;
            reach[pair[1]][pair[0]] = true;
        }
        for (int via = 0; via < 16; via++) {
            for (int a = 0; a < 16; a++) {
                for (int b = 0; b < 16; b++) {
                    reach[a][b] |= reach[a][via] && reach[via][b];
                }
            }
        }
        return reach;
    }
}
