/** What promise 6 says of gap 3, for any object with that gap whose epoch has not wrapped around. */
final class GapThree {
    private final Check check;

    GapThree(Check check) {
        this.check = check;
    }

    void safe(String state, EpochReclaim x) {
        check.same(state + ": access traps", x.counter(EpochReclaim.C_ACCESS_TRAPS), 0);
        check.same(state + ": double frees", x.counter(EpochReclaim.C_DOUBLE_FREES), 0);
        check.same(state + ": dropped", x.counter(EpochReclaim.C_DROPPED), 0);
    }

    /** Every thread must be idle. Answers the length of the chain. */
    int nothingLost(String state, EpochReclaim x, int cells) {
        for (int n = 1; n <= 3; n++) {
            check.same(state + ": tryAdvance " + n, x.tryAdvance(), true);
        }
        for (int k = 0; k < 3; k++) {
            check.same(state + ": limboSize(" + k + ")", x.limboSize(k), 0);
        }
        boolean[] onChain = new boolean[cells];
        int n = 0;
        int c = x.top();
        while (c != EpochReclaim.NIL && n < cells) {
            check.same(state + ": cell " + c + " stands twice", onChain[c], false);
            onChain[c] = true;
            n++;
            c = x.cell(c, EpochReclaim.CELL_NEXT);
        }
        check.same(state + ": the end of the chain", c, EpochReclaim.NIL);
        for (int i = 0; i < cells; i++) {
            check.same(state + ": state of " + i, x.cell(i, EpochReclaim.CELL_STATE),
                onChain[i] ? EpochReclaim.STATE_LIVE : EpochReclaim.STATE_FREE);
        }
        check.same(state + ": free cells and chain", x.counter(EpochReclaim.C_FREE_CELLS) + n, cells);
        safe(state, x);
        return n;
    }

    static boolean allIdle(EpochReclaim x, int threads) {
        for (int t = 0; t < threads; t++) {
            if (x.phase(t) != EpochReclaim.PH_IDLE) {
                return false;
            }
        }
        return true;
    }
}
