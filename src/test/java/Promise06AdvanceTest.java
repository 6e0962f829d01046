import java.util.List;

/** Promise 6: when tryAdvance is refused, what it frees, and that gap 3 is safe. */
public final class Promise06AdvanceTest {
    private static final Check CHECK = new Check("promise 6");

    public static void main(String[] args) {
        checkNoThreadPinned();
        checkRefusedByEachThread();
        checkPinnedInCurrentEpoch();
        checkStartedButNotPinned();
        checkFreesOnlyOneList();
        checkDoubleFreeInOneList();
        checkDoubleFreeAcrossLists();
        checkOrderOfFreeing();
        long retires = 0;
        for (int seed = 1; seed <= 400; seed++) {
            retires += checkGapThreeIsSafe(seed);
        }
        CHECK.same("the safe runs retired many cells", retires > 2000, true);
        CHECK.end();
    }

    private static void checkNoThreadPinned() {
        EpochReclaim x = new EpochReclaim(8, 2, 3);
        for (int n = 1; n <= 10; n++) {
            List<String> before = Check.state(x);
            CHECK.same("tryAdvance " + n, x.tryAdvance(), true);
            CHECK.same("epoch", x.counter(EpochReclaim.C_EPOCH), n);
            CHECK.same("advances", x.counter(EpochReclaim.C_ADVANCES), n);
            CHECK.sameStateBut("tryAdvance " + n, Check.state(x), before, "counter(4", "counter(7");
        }
    }

    private static void checkRefusedByEachThread() {
        for (int threads = 2; threads <= 4; threads++) {
            for (int t = 0; t < threads; t++) {
                EpochReclaim x = new EpochReclaim(8, threads, 1);
                Runs.pushWhole(x, 0, 5);
                x.push(t, 6);
                x.step(t);
                CHECK.same("tryAdvance with " + t + " pinned now", x.tryAdvance(), true);
                int other = t == 0 ? 1 : 0;
                Runs.popWhole(x, other);
                List<String> before = Check.state(x);
                CHECK.same("tryAdvance with " + t + " pinned before", x.tryAdvance(), false);
                CHECK.sameState("refused tryAdvance", Check.state(x), before);
                x.run(t, 64);
                CHECK.same("tryAdvance with " + t + " unpinned", x.tryAdvance(), true);
            }
        }
    }

    private static void checkPinnedInCurrentEpoch() {
        EpochReclaim x = new EpochReclaim(8, 4, 3);
        Runs.advances(x, 5);
        for (int t = 0; t < 4; t++) {
            x.pop(t);
            x.step(t);
        }
        CHECK.same("tryAdvance with all pinned now", x.tryAdvance(), true);
        CHECK.same("announced(3)", x.announced(3), 5);
        CHECK.same("tryAdvance with all pinned before", x.tryAdvance(), false);
        for (int t = 0; t < 3; t++) {
            x.run(t, 64);
            CHECK.same("tryAdvance with 3 pinned before", x.tryAdvance(), false);
        }
        x.run(3, 64);
        CHECK.same("tryAdvance with none pinned", x.tryAdvance(), true);
    }

    private static void checkStartedButNotPinned() {
        EpochReclaim x = new EpochReclaim(8, 2, 3);
        x.push(0, 5);
        for (int n = 1; n <= 4; n++) {
            CHECK.same("tryAdvance before PIN", x.tryAdvance(), true);
        }
        CHECK.same("phase(0)", x.phase(0), EpochReclaim.PH_PIN);
        x.step(0);
        CHECK.same("announced(0)", x.announced(0), 4);
    }

    private static void checkFreesOnlyOneList() {
        EpochReclaim x = new EpochReclaim(8, 2, 3);
        for (int e = 0; e < 3; e++) {
            Runs.pushWhole(x, 0, 10 + e);
            Runs.pushWhole(x, 0, 20 + e);
            Runs.popWhole(x, 0);
            Runs.popWhole(x, 0);
            if (e < 2) {
                x.tryAdvance();
            }
        }
        CHECK.same("free cells before", x.counter(EpochReclaim.C_FREE_CELLS), 2);
        List<String> before = Check.state(x);
        CHECK.same("tryAdvance to 3", x.tryAdvance(), true);
        CHECK.same("limboSize(0)", x.limboSize(0), 0);
        CHECK.same("state of 0", x.cell(0, 0), EpochReclaim.STATE_FREE);
        CHECK.same("state of 1", x.cell(1, 0), EpochReclaim.STATE_FREE);
        CHECK.same("value of 1", x.cell(1, 1), 20);
        CHECK.same("next of 1", x.cell(1, 2), 0);
        CHECK.same("free cells", x.counter(EpochReclaim.C_FREE_CELLS), 4);
        CHECK.sameStateBut("tryAdvance to 3", Check.state(x), before, "limboSize(0", "limboCell(0", "cell(0, 0",
            "cell(1, 0", "counter(4", "counter(5", "counter(7");
    }

    private static void checkDoubleFreeInOneList() {
        EpochReclaim x = Runs.selfLoop();
        for (int n = 0; n < 5; n++) {
            Runs.popWhole(x, 0);
        }
        int free = x.counter(EpochReclaim.C_FREE_CELLS);
        List<String> before = Check.state(x);
        CHECK.same("tryAdvance", x.tryAdvance(), true);
        CHECK.same("double frees", x.counter(EpochReclaim.C_DOUBLE_FREES), 4);
        CHECK.same("last trap cell", x.counter(EpochReclaim.C_LAST_TRAP_CELL), 0);
        CHECK.same("access traps", x.counter(EpochReclaim.C_ACCESS_TRAPS), 0);
        CHECK.same("free cells", x.counter(EpochReclaim.C_FREE_CELLS), free + 1);
        CHECK.same("top", x.top(), 0);
        CHECK.sameStateBut("tryAdvance", Check.state(x), before, "limboSize(1", "limboCell(1", "cell(0, 0",
            "counter(1", "counter(2", "counter(4", "counter(5", "counter(7");
    }

    /** The cell is freed through list 1 and later found FREE in list 2. */
    private static void checkDoubleFreeAcrossLists() {
        EpochReclaim x = Runs.selfLoop();
        x.pop(1);
        x.step(1);
        Runs.popWhole(x, 0);
        CHECK.same("tryAdvance to 2", x.tryAdvance(), true);
        CHECK.same("double frees", x.counter(EpochReclaim.C_DOUBLE_FREES), 0);
        x.run(1, 64);
        Runs.popWhole(x, 0);
        CHECK.same("limboSize(1)", x.limboSize(1), 1);
        CHECK.same("limboSize(2)", x.limboSize(2), 1);
        CHECK.same("tryAdvance to 3", x.tryAdvance(), true);
        CHECK.same("double frees", x.counter(EpochReclaim.C_DOUBLE_FREES), 1);
        CHECK.same("limboSize(1)", x.limboSize(1), 1);
        CHECK.same("limboSize(2)", x.limboSize(2), 0);
        Runs.advances(x, 2);
        CHECK.same("double frees", x.counter(EpochReclaim.C_DOUBLE_FREES), 2);
    }

    /** The list holds 0, 2, 0, 2: freed in that order, the latest double free is of cell 2. */
    private static void checkOrderOfFreeing() {
        EpochReclaim x = Runs.twoCellLoop();
        int[] entries = {0, 2, 0, 2};
        for (int i = 0; i < entries.length; i++) {
            Runs.popWhole(x, 0);
            CHECK.same("limboCell(1, " + i + ")", x.limboCell(1, i), entries[i]);
        }
        CHECK.same("tryAdvance", x.tryAdvance(), true);
        CHECK.same("double frees", x.counter(EpochReclaim.C_DOUBLE_FREES), 2);
        CHECK.same("last trap cell", x.counter(EpochReclaim.C_LAST_TRAP_CELL), 2);
    }

    private static long checkGapThreeIsSafe(int seed) {
        Runs.Dice dice = new Runs.Dice(seed);
        int cells = 8 + dice.below(3) * 12;
        int threads = 2 + dice.below(3);
        EpochReclaim x = new EpochReclaim(cells, threads, 3);
        int advanceWeight = 1 + dice.below(4);
        for (int call = 0; call < 600; call++) {
            randomCall(x, dice, threads, advanceWeight);
            CHECK.same("seed " + seed + ": access traps", x.counter(EpochReclaim.C_ACCESS_TRAPS), 0);
            CHECK.same("seed " + seed + ": double frees", x.counter(EpochReclaim.C_DOUBLE_FREES), 0);
            CHECK.same("seed " + seed + ": dropped", x.counter(EpochReclaim.C_DROPPED), 0);
            if (call % 150 == 149) {
                finishAll(x, threads);
                checkNothingLost(x, cells, seed);
            }
        }
        return x.counter(EpochReclaim.C_RETIRES);
    }

    private static void randomCall(EpochReclaim x, Runs.Dice dice, int threads, int advanceWeight) {
        int t = dice.below(threads);
        int kind = dice.below(20);
        if (kind < advanceWeight) {
            x.tryAdvance();
        } else if (x.phase(t) != EpochReclaim.PH_IDLE) {
            x.run(t, 1 + dice.below(3));
        } else if (dice.below(2) == 0) {
            x.push(t, dice.below(1000));
        } else {
            x.pop(t);
        }
    }

    private static void finishAll(EpochReclaim x, int threads) {
        for (int t = 0; t < threads; t++) {
            x.run(t, 64);
        }
    }

    private static void checkNothingLost(EpochReclaim x, int cells, int seed) {
        for (int n = 0; n < 3; n++) {
            CHECK.same("seed " + seed + ": tryAdvance", x.tryAdvance(), true);
        }
        for (int k = 0; k < 3; k++) {
            CHECK.same("seed " + seed + ": limboSize(" + k + ")", x.limboSize(k), 0);
        }
        boolean[] onChain = new boolean[cells];
        int n = 0;
        for (int c = x.top(); c != EpochReclaim.NIL && n <= cells; c = x.cell(c, EpochReclaim.CELL_NEXT)) {
            CHECK.same("seed " + seed + ": cell " + c + " stands twice", onChain[c], false);
            onChain[c] = true;
            n++;
        }
        for (int c = 0; c < cells; c++) {
            CHECK.same("seed " + seed + ": state of " + c, x.cell(c, EpochReclaim.CELL_STATE),
                onChain[c] ? EpochReclaim.STATE_LIVE : EpochReclaim.STATE_FREE);
        }
        CHECK.same("seed " + seed + ": free cells", x.counter(EpochReclaim.C_FREE_CELLS), cells - n);
    }
}
