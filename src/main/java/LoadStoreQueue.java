/**
 * The load-store queue of a processor that runs memory operations out of
 * order: loads may run ahead of older stores whose addresses are unknown, are
 * sent back when they missed one, and from then on wait for the stores of
 * their set.
 */
public final class LoadStoreQueue {
    public static final int LOAD = 0;
    public static final int STORE = 1;

    public static final int OK = 0;
    public static final int NO_OP = -1;
    public static final int BAD_KIND = -2;
    public static final int BAD_ARGUMENT = -3;
    public static final int ALREADY = -4;
    public static final int FULL = -5;
    public static final int NO_ADDRESS = -6;
    public static final int PREDICTED = -7;
    public static final int NO_DATA = -8;
    public static final int NOT_READY = -9;
    public static final int EMPTY = -10;
    public static final int STORE_DONE = -11;

    private static final int LEAST_WINDOW = 4;
    private static final int GREATEST_WINDOW = 32;
    private static final int LEAST_BUFFER = 1;
    private static final int GREATEST_BUFFER = 8;
    private static final int LEAST_MEMORY = 8;
    private static final int GREATEST_MEMORY = 64;
    private static final int PCS = 16;

    private static final int UNKNOWN = -1;
    private static final int NO_STORE = -1;
    private static final int NO_SET = -1;

    private final int windowSize;
    private final int bufferSize;
    private final int memorySize;

    // The window: index 0 is the oldest operation, so an index is a position.
    private int windowCount = 0;
    private final int[] kinds = new int[GREATEST_WINDOW];
    private final int[] pcs = new int[GREATEST_WINDOW];
    private final int[] sizes = new int[GREATEST_WINDOW];
    private final int[] addresses = new int[GREATEST_WINDOW];
    // True for an executed load and for a store with known data; only then
    // does the value beside it mean anything.
    private final boolean[] ready = new boolean[GREATEST_WINDOW];
    private final long[] values = new long[GREATEST_WINDOW];

    // The buffer: index 0 is the oldest store, the next to be drained.
    private int bufferCount = 0;
    private final int[] bufferSizes = new int[GREATEST_BUFFER];
    private final int[] bufferAddresses = new int[GREATEST_BUFFER];
    private final long[] bufferValues = new long[GREATEST_BUFFER];

    private final int[] cells = new int[GREATEST_MEMORY];

    // For each pc the name of its set. Pairs are only ever added or all
    // forgotten, so the sets tell all that is asked of the pairs.
    private final int[] sets = new int[PCS];

    public LoadStoreQueue(int windowSize, int bufferSize, int memorySize) {
        this.windowSize = clamp(windowSize, LEAST_WINDOW, GREATEST_WINDOW);
        this.bufferSize = clamp(bufferSize, LEAST_BUFFER, GREATEST_BUFFER);
        this.memorySize = clamp(memorySize, LEAST_MEMORY, GREATEST_MEMORY);
        for (int a = 0; a < GREATEST_MEMORY; a++) {
            cells[a] = 3 * a + 1;
        }
        forgetPairs();
    }

    public int enter(int kind, int pc, int size) {
        if (kind != LOAD && kind != STORE) {
            return BAD_KIND;
        }
        if (!isPc(pc) || !isSize(size)) {
            return BAD_ARGUMENT;
        }
        if (windowCount >= windowSize) {
            return FULL;
        }
        int p = windowCount;
        kinds[p] = kind;
        pcs[p] = pc;
        sizes[p] = size;
        addresses[p] = UNKNOWN;
        ready[p] = false;
        windowCount = p + 1;
        return p;
    }

    public int setAddress(int p, int address) {
        if (!isPosition(p)) {
            return NO_OP;
        }
        if (addresses[p] != UNKNOWN) {
            return ALREADY;
        }
        if (address < 0 || address > memorySize - sizes[p]) {
            return BAD_ARGUMENT;
        }
        addresses[p] = address;
        return kinds[p] == STORE ? sendBackLoadsThatMissed(p) : 0;
    }

    public int setData(int p, int data) {
        if (!isPosition(p)) {
            return NO_OP;
        }
        if (kinds[p] == LOAD) {
            return BAD_KIND;
        }
        if (ready[p]) {
            return ALREADY;
        }
        values[p] = lowBytes(data, sizes[p]);
        ready[p] = true;
        return OK;
    }

    public int execute(int p) {
        if (!isPosition(p)) {
            return NO_OP;
        }
        if (kinds[p] == STORE) {
            return BAD_KIND;
        }
        if (ready[p]) {
            return ALREADY;
        }
        if (addresses[p] == UNKNOWN) {
            return NO_ADDRESS;
        }
        if (waitsForItsSet(p)) {
            return PREDICTED;
        }
        if (lacksData(p)) {
            return NO_DATA;
        }
        values[p] = gatherValue(p);
        ready[p] = true;
        return OK;
    }

    public int executeReady() {
        int executed = 0;
        for (int p = 0; p < windowCount; p++) {
            if (execute(p) == OK) {
                executed++;
            }
        }
        return executed;
    }

    public long commit() {
        if (windowCount == 0) {
            return EMPTY;
        }
        if (!ready[0] || addresses[0] == UNKNOWN) {
            return NOT_READY;
        }
        long answer = values[0];
        if (kinds[0] == STORE) {
            if (bufferCount >= bufferSize) {
                return FULL;
            }
            moveOldestIntoBuffer();
            answer = STORE_DONE;
        }
        removeOldestFromWindow();
        return answer;
    }

    public int drain() {
        if (bufferCount == 0) {
            return EMPTY;
        }
        for (int i = 0; i < bufferSizes[0]; i++) {
            cells[bufferAddresses[0] + i] = byteOf(bufferValues[0], i);
        }
        removeOldestFromBuffer();
        return OK;
    }

    public int discard(int p) {
        if (!isPosition(p)) {
            return NO_OP;
        }
        int removed = windowCount - p;
        windowCount = p;
        return removed;
    }

    public void clearSets() {
        forgetPairs();
    }

    public int count() {
        return windowCount;
    }

    public int pending() {
        return bufferCount;
    }

    public int describe(int p) {
        if (!isPosition(p)) {
            return NO_OP;
        }
        // Halving takes the sizes 1, 2, 4 to 0, 1, 2.
        int s = sizes[p] / 2;
        int a = addresses[p] != UNKNOWN ? 1 : 0;
        int r = ready[p] ? 1 : 0;
        return pcs[p] * 32 + s * 8 + kinds[p] * 4 + a * 2 + r;
    }

    public int address(int p) {
        if (!isPosition(p)) {
            return NO_OP;
        }
        return addresses[p] != UNKNOWN ? addresses[p] : NO_ADDRESS;
    }

    public long value(int p) {
        if (!isPosition(p)) {
            return NO_OP;
        }
        return ready[p] ? values[p] : NOT_READY;
    }

    public int memory(int a, int n) {
        if (a < 0 || a >= memorySize || n < 0 || n > bufferCount) {
            return BAD_ARGUMENT;
        }
        return byteAfterDrains(a, n);
    }

    public int sameSet(int a, int b) {
        if (!isPc(a) || !isPc(b)) {
            return BAD_ARGUMENT;
        }
        return shareSet(a, b) ? 1 : 0;
    }

    private static int clamp(int given, int least, int greatest) {
        if (given < least) {
            return least;
        }
        return given > greatest ? greatest : given;
    }

    private static boolean isPc(int pc) {
        return pc >= 0 && pc < PCS;
    }

    private static boolean isSize(int size) {
        return size == 1 || size == 2 || size == 4;
    }

    private static boolean covers(int start, int size, int cell) {
        return start <= cell && cell < start + size;
    }

    private static int byteOf(long bytes, int i) {
        return (int) (bytes >>> (8 * i)) & 0xFF;
    }

    private static long lowBytes(int data, int size) {
        return data & (0xFFFFFFFFL >>> (32 - 8 * size));
    }

    private boolean isPosition(int p) {
        return p >= 0 && p < windowCount;
    }

    private int sendBackLoadsThatMissed(int store) {
        int sentBack = 0;
        for (int p = store + 1; p < windowCount; p++) {
            if (kinds[p] == LOAD && ready[p] && drawsFrom(p, store)) {
                ready[p] = false;
                rememberPair(pcs[p], pcs[store]);
                sentBack++;
            }
        }
        return sentBack;
    }

    private boolean drawsFrom(int load, int store) {
        for (int i = 0; i < sizes[load]; i++) {
            if (sourceOf(load, addresses[load] + i) == store) {
                return true;
            }
        }
        return false;
    }

    // NO_STORE stands for the buffer and memory.
    private int sourceOf(int load, int cell) {
        for (int p = load - 1; p >= 0; p--) {
            if (kinds[p] == STORE && addresses[p] != UNKNOWN
                    && covers(addresses[p], sizes[p], cell)) {
                return p;
            }
        }
        return NO_STORE;
    }

    private boolean waitsForItsSet(int load) {
        for (int p = 0; p < load; p++) {
            if (kinds[p] == STORE && addresses[p] == UNKNOWN
                    && shareSet(pcs[p], pcs[load])) {
                return true;
            }
        }
        return false;
    }

    private boolean lacksData(int load) {
        for (int i = 0; i < sizes[load]; i++) {
            int source = sourceOf(load, addresses[load] + i);
            if (source != NO_STORE && !ready[source]) {
                return true;
            }
        }
        return false;
    }

    private long gatherValue(int load) {
        long gathered = 0L;
        for (int i = 0; i < sizes[load]; i++) {
            int cell = addresses[load] + i;
            int source = sourceOf(load, cell);
            long part = source == NO_STORE
                    ? byteAfterDrains(cell, bufferCount)
                    : byteOf(values[source], cell - addresses[source]);
            gathered |= part << (8 * i);
        }
        return gathered;
    }

    // The youngest of the drained stores that covers the cell writes it last.
    private int byteAfterDrains(int cell, int drains) {
        for (int b = drains - 1; b >= 0; b--) {
            if (covers(bufferAddresses[b], bufferSizes[b], cell)) {
                return byteOf(bufferValues[b], cell - bufferAddresses[b]);
            }
        }
        return cells[cell];
    }

    private void moveOldestIntoBuffer() {
        bufferSizes[bufferCount] = sizes[0];
        bufferAddresses[bufferCount] = addresses[0];
        bufferValues[bufferCount] = values[0];
        bufferCount++;
    }

    private void removeOldestFromWindow() {
        for (int p = 1; p < windowCount; p++) {
            kinds[p - 1] = kinds[p];
            pcs[p - 1] = pcs[p];
            sizes[p - 1] = sizes[p];
            addresses[p - 1] = addresses[p];
            ready[p - 1] = ready[p];
            values[p - 1] = values[p];
        }
        windowCount--;
    }

    private void removeOldestFromBuffer() {
        for (int b = 1; b < bufferCount; b++) {
            bufferSizes[b - 1] = bufferSizes[b];
            bufferAddresses[b - 1] = bufferAddresses[b];
            bufferValues[b - 1] = bufferValues[b];
        }
        bufferCount--;
    }

    private boolean shareSet(int a, int b) {
        return sets[a] != NO_SET && sets[a] == sets[b];
    }

    // A pc that was in no pair names its own new set: no other set can bear
    // that name, for a set's name is always one of its members.
    private void rememberPair(int a, int b) {
        if (sets[a] == NO_SET) {
            sets[a] = a;
        }
        if (sets[b] == NO_SET) {
            sets[b] = b;
        }
        int kept = sets[a];
        int merged = sets[b];
        for (int pc = 0; pc < PCS; pc++) {
            if (sets[pc] == merged) {
                sets[pc] = kept;
            }
        }
    }

    private void forgetPairs() {
        for (int pc = 0; pc < PCS; pc++) {
            sets[pc] = NO_SET;
        }
    }
}
