/** Stepped threads on a lock-free stack over a small trapping heap, with epoch-based reclamation. */
public final class EpochReclaim {
    public static final int NIL = -1;
    public static final int LIMBO_CAP = 32;
    public static final int STATE_FREE = 0;
    public static final int STATE_LIVE = 1;
    public static final int STATE_RETIRED = 2;
    public static final int CELL_STATE = 0;
    public static final int CELL_VALUE = 1;
    public static final int CELL_NEXT = 2;
    public static final int PH_IDLE = 0;
    public static final int PH_PIN = 1;
    public static final int PH_ALLOC = 2;
    public static final int PH_READ_TOP = 3;
    public static final int PH_LINK = 4;
    public static final int PH_READ_CELL = 5;
    public static final int PH_CAS = 6;
    public static final int PH_RETIRE = 7;
    public static final int PH_UNPIN = 8;
    public static final int RES_NONE = 0;
    public static final int RES_OK = 1;
    public static final int RES_EMPTY = 2;
    public static final int RES_FULL = 3;
    public static final int KIND_NONE = 0;
    public static final int KIND_PUSH = 1;
    public static final int KIND_POP = 2;
    public static final int L_KIND = 0;
    public static final int L_MINE = 1;
    public static final int L_SEEN = 2;
    public static final int L_VALUE = 3;
    public static final int L_RESULT = 4;
    public static final int C_ACCESS_TRAPS = 0;
    public static final int C_DOUBLE_FREES = 1;
    public static final int C_LAST_TRAP_CELL = 2;
    public static final int C_DROPPED = 3;
    public static final int C_ADVANCES = 4;
    public static final int C_FREE_CELLS = 5;
    public static final int C_RETIRES = 6;
    public static final int C_EPOCH = 7;

    private static final int MIN_CELLS = 8;
    private static final int MAX_CELLS = 32;
    private static final int MIN_THREADS = 2;
    private static final int MAX_THREADS = 4;
    private static final int MIN_GAP = 1;
    private static final int MAX_GAP = 3;
    private static final int MIN_RUN = 1;
    private static final int MAX_RUN = 64;
    private static final int LIMBO_LISTS = 3;
    private static final int LIMBO_SLOTS = LIMBO_LISTS * LIMBO_CAP;
    private static final int NO_ANSWER = -1;

    private final int cells;
    private final int threads;
    private final int gap;

    private final int[] cellState = new int[MAX_CELLS];
    private final int[] cellValue = new int[MAX_CELLS];
    private final int[] cellNext = new int[MAX_CELLS];

    // The three lists lie one after the other, because arrays here have one dimension.
    private final int[] limboEntry = new int[LIMBO_SLOTS];
    private final int[] limboCount = new int[LIMBO_LISTS];

    private final int[] threadPhase = new int[MAX_THREADS];
    private final boolean[] pinned = new boolean[MAX_THREADS];
    private final int[] announcedEpoch = new int[MAX_THREADS];
    private final int[] kind = new int[MAX_THREADS];
    private final int[] mine = new int[MAX_THREADS];
    private final int[] seen = new int[MAX_THREADS];
    private final int[] value = new int[MAX_THREADS];
    private final int[] result = new int[MAX_THREADS];
    private final int[] endedResult = new int[MAX_THREADS];
    private final int[] endedValue = new int[MAX_THREADS];

    private int topCell = NIL;
    private int epoch = 0;
    private int accessTraps = 0;
    private int doubleFrees = 0;
    private int lastTrapCell = NIL;
    private int dropped = 0;
    private int advances = 0;
    private int freeCells;
    private int retires = 0;

    public EpochReclaim(int cells, int threads, int gap) {
        this.cells = clamp(cells, MIN_CELLS, MAX_CELLS);
        this.threads = clamp(threads, MIN_THREADS, MAX_THREADS);
        this.gap = clamp(gap, MIN_GAP, MAX_GAP);
        freeCells = this.cells;
        for (int c = 0; c < MAX_CELLS; c++) {
            cellNext[c] = NIL;
        }
        for (int t = 0; t < MAX_THREADS; t++) {
            mine[t] = NIL;
            seen[t] = NIL;
        }
    }

    public boolean push(int t, int v) {
        return start(t, KIND_PUSH, v);
    }

    public boolean pop(int t) {
        return start(t, KIND_POP, 0);
    }

    public int step(int t) {
        if (!isBusy(t)) {
            return PH_IDLE;
        }
        int executed = threadPhase[t];
        executePhase(t);
        return executed;
    }

    public int run(int t, int maxSteps) {
        if (!isBusy(t)) {
            return 0;
        }
        int limit = clamp(maxSteps, MIN_RUN, MAX_RUN);
        int done = 0;
        while (done < limit && threadPhase[t] != PH_IDLE) {
            executePhase(t);
            done++;
        }
        return done;
    }

    public boolean tryAdvance() {
        if (someThreadLagsBehind()) {
            return false;
        }
        epoch++;
        advances++;
        int expired = listOf(epoch + LIMBO_LISTS - gap);
        freeLimboList(expired);
        return true;
    }

    public int phase(int t) {
        return isThread(t) ? threadPhase[t] : NO_ANSWER;
    }

    public int announced(int t) {
        return isThread(t) && pinned[t] ? announcedEpoch[t] : NO_ANSWER;
    }

    public int lastResult(int t) {
        return isThread(t) ? endedResult[t] : NO_ANSWER;
    }

    public int lastValue(int t) {
        return isThread(t) ? endedValue[t] : NO_ANSWER;
    }

    public int local(int t, int what) {
        if (!isThread(t)) {
            return NO_ANSWER;
        }
        switch (what) {
            case L_KIND:
                return kind[t];
            case L_MINE:
                return mine[t];
            case L_SEEN:
                return seen[t];
            case L_VALUE:
                return value[t];
            case L_RESULT:
                return result[t];
            default:
                return NO_ANSWER;
        }
    }

    public int top() {
        return topCell;
    }

    public int cell(int c, int what) {
        if (!isCell(c)) {
            return NO_ANSWER;
        }
        switch (what) {
            case CELL_STATE:
                return cellState[c];
            case CELL_VALUE:
                return cellValue[c];
            case CELL_NEXT:
                return cellNext[c];
            default:
                return NO_ANSWER;
        }
    }

    public int limboSize(int k) {
        return isLimboList(k) ? limboCount[k] : NO_ANSWER;
    }

    public int limboCell(int k, int i) {
        if (!isLimboList(k) || i < 0 || i >= limboCount[k]) {
            return NO_ANSWER;
        }
        return limboEntry[k * LIMBO_CAP + i];
    }

    public int counter(int what) {
        switch (what) {
            case C_ACCESS_TRAPS:
                return accessTraps;
            case C_DOUBLE_FREES:
                return doubleFrees;
            case C_LAST_TRAP_CELL:
                return lastTrapCell;
            case C_DROPPED:
                return dropped;
            case C_ADVANCES:
                return advances;
            case C_FREE_CELLS:
                return freeCells;
            case C_RETIRES:
                return retires;
            case C_EPOCH:
                return epoch;
            default:
                return NO_ANSWER;
        }
    }

    private static int clamp(int n, int least, int greatest) {
        if (n < least) {
            return least;
        }
        return n > greatest ? greatest : n;
    }

    // After E has wrapped around, % alone would name a list below 0.
    private static int listOf(int n) {
        int rest = n % LIMBO_LISTS;
        return rest < 0 ? rest + LIMBO_LISTS : rest;
    }

    private boolean isThread(int t) {
        return t >= 0 && t < threads;
    }

    private boolean isBusy(int t) {
        return isThread(t) && threadPhase[t] != PH_IDLE;
    }

    private boolean isCell(int c) {
        return c >= 0 && c < cells;
    }

    private boolean isLimboList(int k) {
        return k >= 0 && k < LIMBO_LISTS;
    }

    private boolean start(int t, int newKind, int newValue) {
        if (!isThread(t) || threadPhase[t] != PH_IDLE) {
            return false;
        }
        kind[t] = newKind;
        mine[t] = NIL;
        seen[t] = NIL;
        value[t] = newValue;
        result[t] = RES_NONE;
        threadPhase[t] = PH_PIN;
        return true;
    }

    private void executePhase(int t) {
        switch (threadPhase[t]) {
            case PH_PIN:
                pin(t);
                break;
            case PH_ALLOC:
                allocate(t);
                break;
            case PH_READ_TOP:
                readTop(t);
                break;
            case PH_LINK:
                link(t);
                break;
            case PH_READ_CELL:
                readCell(t);
                break;
            case PH_CAS:
                compareAndSwap(t);
                break;
            case PH_RETIRE:
                retire(t);
                break;
            case PH_UNPIN:
                unpin(t);
                break;
            default:
                break;
        }
    }

    private void pin(int t) {
        pinned[t] = true;
        announcedEpoch[t] = epoch;
        threadPhase[t] = kind[t] == KIND_PUSH ? PH_ALLOC : PH_READ_TOP;
    }

    private void allocate(int t) {
        int c = lowestFreeCell();
        if (c == NIL) {
            result[t] = RES_FULL;
            threadPhase[t] = PH_UNPIN;
            return;
        }
        cellState[c] = STATE_LIVE;
        cellValue[c] = value[t];
        cellNext[c] = NIL;
        freeCells--;
        mine[t] = c;
        threadPhase[t] = PH_READ_TOP;
    }

    private int lowestFreeCell() {
        for (int c = 0; c < cells; c++) {
            if (cellState[c] == STATE_FREE) {
                return c;
            }
        }
        return NIL;
    }

    private void readTop(int t) {
        if (kind[t] == KIND_PUSH) {
            seen[t] = topCell;
            threadPhase[t] = PH_LINK;
            return;
        }
        mine[t] = topCell;
        if (topCell == NIL) {
            result[t] = RES_EMPTY;
            value[t] = 0;
            threadPhase[t] = PH_UNPIN;
        } else {
            threadPhase[t] = PH_READ_CELL;
        }
    }

    // In LINK, READ_CELL and RETIRE mine always names a cell. It is looked at all the same, as every index here is
    // before it is used, so that no call can throw.
    private void link(int t) {
        int c = mine[t];
        if (isCell(c)) {
            trapIfFree(c);
            cellNext[c] = seen[t];
        }
        threadPhase[t] = PH_CAS;
    }

    private void readCell(int t) {
        int c = mine[t];
        if (isCell(c)) {
            trapIfFree(c);
            seen[t] = cellNext[c];
            value[t] = cellValue[c];
        }
        threadPhase[t] = PH_CAS;
    }

    private void trapIfFree(int c) {
        if (cellState[c] == STATE_FREE) {
            accessTraps++;
            lastTrapCell = c;
        }
    }

    private void compareAndSwap(int t) {
        boolean pushing = kind[t] == KIND_PUSH;
        int expected = pushing ? seen[t] : mine[t];
        if (topCell != expected) {
            threadPhase[t] = PH_READ_TOP;
            return;
        }
        topCell = pushing ? mine[t] : seen[t];
        result[t] = RES_OK;
        threadPhase[t] = pushing ? PH_UNPIN : PH_RETIRE;
    }

    private void retire(int t) {
        int c = mine[t];
        int k = listOf(announcedEpoch[t]);
        appendToLimbo(k, c);
        // With a premature gap the cell may already be FREE or RETIRED, and then stays so.
        if (isCell(c) && cellState[c] == STATE_LIVE) {
            cellState[c] = STATE_RETIRED;
        }
        retires++;
        threadPhase[t] = PH_UNPIN;
    }

    private void appendToLimbo(int k, int c) {
        if (limboCount[k] < LIMBO_CAP) {
            limboEntry[k * LIMBO_CAP + limboCount[k]] = c;
            limboCount[k]++;
        } else {
            dropped++;
        }
    }

    private void unpin(int t) {
        pinned[t] = false;
        endedResult[t] = result[t];
        endedValue[t] = value[t];
        threadPhase[t] = PH_IDLE;
    }

    private boolean someThreadLagsBehind() {
        for (int t = 0; t < threads; t++) {
            if (pinned[t] && announcedEpoch[t] != epoch) {
                return true;
            }
        }
        return false;
    }

    private void freeLimboList(int k) {
        for (int i = 0; i < limboCount[k]; i++) {
            freeCell(limboEntry[k * LIMBO_CAP + i]);
        }
        limboCount[k] = 0;
    }

    private void freeCell(int c) {
        if (!isCell(c)) {
            return;
        }
        if (cellState[c] == STATE_FREE) {
            doubleFrees++;
            lastTrapCell = c;
        } else {
            cellState[c] = STATE_FREE;
            freeCells++;
        }
    }
}
