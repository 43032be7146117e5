/**
 * A submission ring and a completion ring between a process and a kernel, with a small block device behind
 * them. The process writes entries with prep and takes completions with pop; the kernel works in enter and tick.
 */
public final class AsyncRings {
    public static final int OP_NOP = 0;
    public static final int OP_READ = 1;
    public static final int OP_WRITE = 2;
    public static final int OP_CMP = 3;
    public static final int OP_TIMEOUT = 4;
    public static final int OP_CANCEL = 5;
    public static final int OP_MASK = 15;
    public static final int FLAG_LINK = 16;
    public static final int RES_OK = 0;
    public static final int ERR_NOENT = -2;
    public static final int ERR_INVALID = -22;
    public static final int ERR_MISMATCH = -74;
    public static final int ERR_CANCELED = -125;
    public static final int BLOCKS = 16;
    public static final int BUFFERS = 8;
    public static final int MAX_OWED = 32;
    public static final int MAX_TIMEOUT = 16;
    public static final int SQ_MIN = 2;
    public static final int SQ_MAX = 16;
    public static final int CQ_MIN = 2;
    public static final int CQ_MAX = 16;
    public static final int LAT_MIN = 0;
    public static final int LAT_MAX = 4;

    private static final int WAITING = 0;
    private static final int PENDING = 1;
    private static final int POSTED = 2;

    // A completion that overflows was a live request before, so at most MAX_OWED are ever parked beside a full CQ.
    private static final int DONE_MAX = CQ_MAX + MAX_OWED;

    private final int sqCapacity;
    private final int cqCapacity;
    private final int latency;

    private final int[] sqOpFlags = new int[SQ_MAX];
    private final int[] sqA = new int[SQ_MAX];
    private final int[] sqB = new int[SQ_MAX];
    private final int[] sqTag = new int[SQ_MAX];
    private int sqFirst;
    private int sqCount;

    // The CQ and the overflow list are one queue in the order of posting, because completions never overtake
    // each other: the first cqCount of its doneCount completions are in the CQ, the rest are the overflow list.
    private final int[] doneTag = new int[DONE_MAX];
    private final int[] doneResult = new int[DONE_MAX];
    private int doneFirst;
    private int doneCount;
    private int cqCount;

    // Requests stand in ascending sequence number. A posted one keeps its place until the call ends, so that
    // places stay good while a chain runs. A successor stands right behind its predecessor: it was consumed
    // right after it and cannot be posted before it.
    private final int[] reqOpcode = new int[MAX_OWED];
    private final int[] reqA = new int[MAX_OWED];
    private final int[] reqB = new int[MAX_OWED];
    private final int[] reqTag = new int[MAX_OWED];
    private final int[] reqState = new int[MAX_OWED];
    private final int[] reqTicks = new int[MAX_OWED];
    private final boolean[] reqHasSuccessor = new boolean[MAX_OWED];
    private int reqCount;

    private final int[] blocks = new int[BLOCKS];
    private final int[] buffers = new int[BUFFERS];

    public AsyncRings(int sqSize, int cqSize, int latency) {
        this.sqCapacity = clamp(sqSize, SQ_MIN, SQ_MAX);
        this.cqCapacity = clamp(cqSize, CQ_MIN, CQ_MAX);
        this.latency = clamp(latency, LAT_MIN, LAT_MAX);
    }

    public boolean prep(int opFlags, int a, int b, int tag) {
        if (sqCount >= sqCapacity) {
            return false;
        }
        int slot = (sqFirst + sqCount) % SQ_MAX;
        sqOpFlags[slot] = opFlags;
        sqA[slot] = a;
        sqB[slot] = b;
        sqTag[slot] = tag;
        sqCount++;
        return true;
    }

    public int enter(int n) {
        flush();
        int first = reqCount;
        consume(n);
        int end = reqCount;
        for (int at = first; at < end; at++) {
            if (at == first || !reqHasSuccessor[at - 1]) {
                runChain(at);
            }
        }
        dropPosted();
        return end - first;
    }

    public int tick() {
        flush();
        countDown();
        int before = reqCount;
        // One pass is enough: whatever becomes PENDING on the way has at least one tick left.
        for (int at = 0; at < before; at++) {
            if (reqState[at] == PENDING && reqTicks[at] == 0) {
                runChain(at);
            }
        }
        dropPosted();
        return before - reqCount;
    }

    public boolean pop() {
        if (cqCount == 0) {
            return false;
        }
        doneFirst = (doneFirst + 1) % DONE_MAX;
        doneCount--;
        cqCount--;
        return true;
    }

    public int cqReady() {
        return cqCount;
    }

    public int overflowCount() {
        return doneCount - cqCount;
    }

    public int cqTag(int k) {
        if (k < 0 || k >= doneCount) {
            return 0;
        }
        return doneTag[(doneFirst + k) % DONE_MAX];
    }

    public int cqResult(int k) {
        if (k < 0 || k >= doneCount) {
            return 0;
        }
        return doneResult[(doneFirst + k) % DONE_MAX];
    }

    public int sqPending() {
        return sqCount;
    }

    public int liveCount() {
        return reqCount;
    }

    public int liveTag(int k) {
        if (k < 0 || k >= reqCount) {
            return 0;
        }
        return reqTag[k];
    }

    public int liveState(int k) {
        if (k < 0 || k >= reqCount) {
            return -1;
        }
        int ticks = reqState[k] == PENDING ? reqTicks[k] : 0;
        int successor = reqHasSuccessor[k] ? 1 : 0;
        return 2 * ticks + successor;
    }

    public boolean setBuffer(int i, int v) {
        if (!isBuffer(i)) {
            return false;
        }
        buffers[i] = v;
        return true;
    }

    public int getBuffer(int i) {
        return isBuffer(i) ? buffers[i] : 0;
    }

    public int getBlock(int i) {
        return isBlock(i) ? blocks[i] : 0;
    }

    private static int clamp(int value, int least, int greatest) {
        if (value < least) {
            return least;
        }
        return value > greatest ? greatest : value;
    }

    private static boolean isBlock(int i) {
        return i >= 0 && i < BLOCKS;
    }

    private static boolean isBuffer(int i) {
        return i >= 0 && i < BUFFERS;
    }

    private void flush() {
        cqCount = doneCount < cqCapacity ? doneCount : cqCapacity;
    }

    private void consume(int n) {
        int parked = doneCount - cqCount;
        int first = reqCount;
        for (int k = 0; k < n && sqCount > 0 && reqCount + parked < MAX_OWED; k++) {
            takeEntry();
        }
        // A link never reaches over the end of a call.
        if (reqCount > first) {
            reqHasSuccessor[reqCount - 1] = false;
        }
    }

    private void takeEntry() {
        int opFlags = sqOpFlags[sqFirst];
        reqOpcode[reqCount] = opFlags & OP_MASK;
        reqHasSuccessor[reqCount] = (opFlags & FLAG_LINK) != 0;
        reqA[reqCount] = sqA[sqFirst];
        reqB[reqCount] = sqB[sqFirst];
        reqTag[reqCount] = sqTag[sqFirst];
        reqState[reqCount] = WAITING;
        reqTicks[reqCount] = 0;
        reqCount++;
        sqFirst = (sqFirst + 1) % SQ_MAX;
        sqCount--;
    }

    private void countDown() {
        for (int at = 0; at < reqCount; at++) {
            if (reqState[at] == PENDING) {
                reqTicks[at]--;
            }
        }
    }

    // A start and an execution at the end of the wait go the same way, but what has waited does not wait again.
    private void runChain(int first) {
        for (int at = first; at < reqCount; at++) {
            int ticks = reqState[at] == WAITING ? ticksToWait(at) : 0;
            if (ticks > 0) {
                reqState[at] = PENDING;
                reqTicks[at] = ticks;
                return;
            }
            int result = execute(at);
            post(at, result);
            if (!reqHasSuccessor[at]) {
                return;
            }
            if (result < 0) {
                postCanceledChain(at + 1);
                return;
            }
        }
    }

    private int ticksToWait(int at) {
        if (!hasValidArguments(at)) {
            return 0;
        }
        switch (reqOpcode[at]) {
            case OP_READ:
            case OP_WRITE:
            case OP_CMP:
                return latency;
            case OP_TIMEOUT:
                return reqA[at];
            default:
                return 0;
        }
    }

    private boolean hasValidArguments(int at) {
        int a = reqA[at];
        switch (reqOpcode[at]) {
            case OP_NOP:
            case OP_CANCEL:
                return true;
            case OP_READ:
            case OP_WRITE:
                return isBlock(a) && isBuffer(reqB[at]);
            case OP_CMP:
                return isBlock(a);
            case OP_TIMEOUT:
                return a >= 1 && a <= MAX_TIMEOUT;
            default:
                return false;
        }
    }

    private int execute(int at) {
        if (!hasValidArguments(at)) {
            return ERR_INVALID;
        }
        int a = reqA[at];
        int b = reqB[at];
        switch (reqOpcode[at]) {
            case OP_READ:
                buffers[b] = blocks[a];
                return RES_OK;
            case OP_WRITE:
                blocks[a] = buffers[b];
                return RES_OK;
            case OP_CMP:
                return blocks[a] == b ? RES_OK : ERR_MISMATCH;
            case OP_CANCEL:
                return cancelPending(a);
            default:
                return RES_OK;
        }
    }

    private int cancelPending(int tag) {
        int targets = 0;
        for (int at = 0; at < reqCount; at++) {
            if (reqState[at] == PENDING && reqTag[at] == tag) {
                postCanceledChain(at);
                targets++;
            }
        }
        return targets > 0 ? targets : ERR_NOENT;
    }

    private void postCanceledChain(int first) {
        for (int at = first; at < reqCount; at++) {
            post(at, ERR_CANCELED);
            if (!reqHasSuccessor[at]) {
                return;
            }
        }
    }

    private void post(int at, int result) {
        reqState[at] = POSTED;
        int slot = (doneFirst + doneCount) % DONE_MAX;
        doneTag[slot] = reqTag[at];
        doneResult[slot] = result;
        if (cqCount == doneCount && cqCount < cqCapacity) {
            cqCount++;
        }
        doneCount++;
    }

    private void dropPosted() {
        int kept = 0;
        for (int at = 0; at < reqCount; at++) {
            if (reqState[at] != POSTED) {
                moveRequest(at, kept);
                kept++;
            }
        }
        reqCount = kept;
    }

    private void moveRequest(int from, int to) {
        reqOpcode[to] = reqOpcode[from];
        reqA[to] = reqA[from];
        reqB[to] = reqB[from];
        reqTag[to] = reqTag[from];
        reqState[to] = reqState[from];
        reqTicks[to] = reqTicks[from];
        reqHasSuccessor[to] = reqHasSuccessor[from];
    }
}
