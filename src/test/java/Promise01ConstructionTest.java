/** Promise 1: clamping, the state at the start, and the list that each gap frees. */
public final class Promise01ConstructionTest {
    private static final Check CHECK = new Check("promise 1");

    public static void main(String[] args) {
        checkClamping();
        checkStart(8, 2, 3);
        checkStart(20, 3, 2);
        checkStart(32, 4, 1);
        for (int gap = 1; gap <= 3; gap++) {
            checkFreedList(gap, gap);
        }
        checkFreedList(0, 1);
        checkFreedList(-1, 1);
        checkFreedList(Integer.MIN_VALUE, 1);
        checkFreedList(4, 3);
        checkFreedList(Integer.MAX_VALUE, 3);
        CHECK.end();
    }

    private static void checkClamping() {
        int[][] cells = {{7, 8}, {8, 8}, {9, 9}, {0, 8}, {-5, 8}, {31, 31}, {32, 32}, {33, 32},
            {Integer.MIN_VALUE, 8}, {Integer.MAX_VALUE, 32}};
        for (int[] pair : cells) {
            EpochReclaim x = new EpochReclaim(pair[0], 2, 3);
            String made = "new EpochReclaim(" + pair[0] + ", 2, 3)";
            CHECK.same(made + ": free cells", x.counter(EpochReclaim.C_FREE_CELLS), pair[1]);
            CHECK.same(made + ": state of the last cell", x.cell(pair[1] - 1, 0), EpochReclaim.STATE_FREE);
            CHECK.same(made + ": state of the cell after it", x.cell(pair[1], 0), -1);
        }
        int[][] threads = {{1, 2}, {2, 2}, {3, 3}, {4, 4}, {5, 4}, {0, 2}, {-1, 2},
            {Integer.MIN_VALUE, 2}, {Integer.MAX_VALUE, 4}};
        for (int[] pair : threads) {
            EpochReclaim x = new EpochReclaim(8, pair[0], 3);
            String made = "new EpochReclaim(8, " + pair[0] + ", 3)";
            CHECK.same(made + ": phase of the last thread", x.phase(pair[1] - 1), EpochReclaim.PH_IDLE);
            CHECK.same(made + ": phase of the thread after it", x.phase(pair[1]), -1);
        }
    }

    private static void checkStart(int cells, int threads, int gap) {
        EpochReclaim x = new EpochReclaim(cells, threads, gap);
        for (int c = 0; c < cells; c++) {
            CHECK.same("state of cell " + c, x.cell(c, EpochReclaim.CELL_STATE), EpochReclaim.STATE_FREE);
            CHECK.same("value of cell " + c, x.cell(c, EpochReclaim.CELL_VALUE), 0);
            CHECK.same("next of cell " + c, x.cell(c, EpochReclaim.CELL_NEXT), EpochReclaim.NIL);
        }
        for (int t = 0; t < threads; t++) {
            CHECK.same("phase of " + t, x.phase(t), EpochReclaim.PH_IDLE);
            CHECK.same("announced of " + t, x.announced(t), -1);
            CHECK.same("kind of " + t, x.local(t, EpochReclaim.L_KIND), EpochReclaim.KIND_NONE);
            CHECK.same("mine of " + t, x.local(t, EpochReclaim.L_MINE), EpochReclaim.NIL);
            CHECK.same("seen of " + t, x.local(t, EpochReclaim.L_SEEN), EpochReclaim.NIL);
            CHECK.same("value of " + t, x.local(t, EpochReclaim.L_VALUE), 0);
            CHECK.same("result of " + t, x.local(t, EpochReclaim.L_RESULT), EpochReclaim.RES_NONE);
            CHECK.same("lastResult of " + t, x.lastResult(t), EpochReclaim.RES_NONE);
            CHECK.same("lastValue of " + t, x.lastValue(t), 0);
        }
        CHECK.same("top", x.top(), EpochReclaim.NIL);
        for (int k = 0; k < 3; k++) {
            CHECK.same("limboSize(" + k + ")", x.limboSize(k), 0);
        }
        int[] counters = {0, 0, EpochReclaim.NIL, 0, 0, cells, 0, 0};
        for (int what = 0; what < counters.length; what++) {
            CHECK.same("counter(" + what + ")", x.counter(what), counters[what]);
        }
    }

    /** A cell retired in epoch e must be freed by the advance to e + effective gap, for each of the three lists. */
    private static void checkFreedList(int gap, int effective) {
        for (int e = 0; e < 6; e++) {
            EpochReclaim x = new EpochReclaim(8, 2, gap);
            Runs.advances(x, e);
            Runs.pushWhole(x, 0, 5);
            Runs.popWhole(x, 0);
            for (int n = 1; n <= effective; n++) {
                CHECK.same("gap " + gap + ", epoch " + e + ": state before advance " + n, x.cell(0, 0),
                    EpochReclaim.STATE_RETIRED);
                CHECK.same("gap " + gap + ", epoch " + e + ": size before advance " + n, x.limboSize(e % 3), 1);
                x.tryAdvance();
            }
            CHECK.same("gap " + gap + ", epoch " + e + ": state at last", x.cell(0, 0), EpochReclaim.STATE_FREE);
            CHECK.same("gap " + gap + ", epoch " + e + ": size at last", x.limboSize(e % 3), 0);
        }
    }
}
