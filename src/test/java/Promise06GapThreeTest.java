import java.util.ArrayList;
import java.util.HashSet;
import java.util.List;
import java.util.Set;

/** Promise 6, the paragraph on gap 3; WrapTest has what it says of the last epochs before the wrap-around. */
public final class Promise06GapThreeTest {
    private static final Check CHECK = new Check("promise 6, gap 3");
    private static final GapThree GAP = new GapThree(CHECK);
    private static final int TWO_THREADS_DEPTH = 24;
    private static final int THREE_THREADS_DEPTH = 14;

    public static void main(String[] args) {
        CHECK.holds("in every reached state `counter(C_ACCESS_TRAPS) == 0`, `counter(C_DOUBLE_FREES) == 0` and "
            + "`counter(C_DROPPED) == 0`. [every state that few calls reach]", Promise06GapThreeTest::everyNearState);
        CHECK.holds("in every reached state `counter(C_ACCESS_TRAPS) == 0`, `counter(C_DOUBLE_FREES) == 0` and "
            + "`counter(C_DROPPED) == 0`. [long runs]", Promise06GapThreeTest::longRuns);
        CHECK.holds("`counter(C_DROPPED) == 0`. [a limbo list with exactly `LIMBO_CAP` entries]",
            Promise06GapThreeTest::limboListFullButNotOver);
        CHECK.holds("right after them all three limbo lists are empty, the chain from `top()` reaches NIL after some "
            + "n <= cells links with all n cells distinct and LIVE, every cell not on that chain is FREE, and "
            + "`counter(C_FREE_CELLS) + n == cells`. [n from 0 to cells]", Promise06GapThreeTest::chainsOfAllLengths);
        CHECK.holds("So every retired cell has been freed exactly once and none is lost.",
            Promise06GapThreeTest::everyRetiredCellFreedOnce);
        CHECK.end();
    }

    /** Goes through the states by the number of calls; with gap 2 the same way must come by a trap. */
    private static void everyNearState() {
        explore(2, 3, TWO_THREADS_DEPTH);
        explore(3, 3, THREE_THREADS_DEPTH);
        CHECK.same("gap 2 is found unsafe", explore(2, 2, TWO_THREADS_DEPTH), true);
        CHECK.same("gap 1 is found unsafe", explore(2, 1, TWO_THREADS_DEPTH), true);
    }

    /** Answers whether an access trap was come by; with gap 3 each state is checked. */
    private static boolean explore(int threads, int gap, int depth) {
        Set<String> known = new HashSet<>();
        List<EpochReclaim> now = List.of(new EpochReclaim(8, threads, gap));
        for (int d = 0; d < depth; d++) {
            List<EpochReclaim> next = new ArrayList<>();
            for (EpochReclaim from : now) {
                for (String call : calls(from, threads)) {
                    EpochReclaim to = Inside.copyOf(from, 8, threads, gap);
                    Runs.perform(to, call);
                    if (known.add(key(to, threads))) {
                        next.add(to);
                        if (gap == 3) {
                            checkState(to, threads);
                        } else if (to.counter(EpochReclaim.C_ACCESS_TRAPS) > 0) {
                            return true;
                        }
                    }
                }
            }
            now = next;
        }
        System.out.println(threads + " threads, gap " + gap + ": " + known.size() + " states");
        return false;
    }

    private static void checkState(EpochReclaim x, int threads) {
        GAP.safe("a near state", x);
        if (GapThree.allIdle(x, threads)) {
            GAP.nothingLost("a near state", Inside.copyOf(x, 8, threads, 3), 8);
        }
    }

    private static List<String> calls(EpochReclaim x, int threads) {
        List<String> calls = new ArrayList<>(List.of("tryAdvance"));
        for (int t = 0; t < threads; t++) {
            if (x.phase(t) == EpochReclaim.PH_IDLE) {
                calls.add("push " + t + " 5");
                calls.add("pop " + t);
            } else {
                calls.add("step " + t);
            }
        }
        return calls;
    }

    /** States that differ only in what can't matter for what follows have the same key. */
    private static String key(EpochReclaim x, int threads) {
        StringBuilder key = new StringBuilder();
        int epoch = x.counter(EpochReclaim.C_EPOCH);
        key.append((char) (epoch % 3)).append((char) (x.top() + 1));
        for (int t = 0; t < threads; t++) {
            int phase = x.phase(t);
            key.append((char) phase);
            if (phase != EpochReclaim.PH_IDLE) {
                key.append((char) x.local(t, EpochReclaim.L_KIND));
                key.append((char) (x.local(t, EpochReclaim.L_MINE) + 1));
                key.append((char) (x.local(t, EpochReclaim.L_SEEN) + 1));
                key.append((char) (x.announced(t) == -1 ? 9 : epoch - x.announced(t)));
            }
        }
        for (int c = 0; c < 8; c++) {
            int state = x.cell(c, EpochReclaim.CELL_STATE);
            key.append((char) state).append((char) (x.cell(c, EpochReclaim.CELL_NEXT) + 1));
        }
        for (int k = 0; k < 3; k++) {
            key.append((char) x.limboSize(k));
            for (int i = 0; i < x.limboSize(k); i++) {
                key.append((char) x.limboCell(k, i));
            }
        }
        return key.toString();
    }

    private static void longRuns() {
        long retires = 0;
        for (int seed = 1; seed <= 400; seed++) {
            Runs.Dice dice = new Runs.Dice(seed);
            int cells = 8 + dice.below(3) * 12;
            int threads = 2 + dice.below(3);
            int advanceWeight = 1 + dice.below(4);
            EpochReclaim x = new EpochReclaim(cells, threads, 3);
            for (int call = 0; call < 600; call++) {
                randomCall(x, dice, threads, advanceWeight);
                GAP.safe("seed " + seed, x);
                if (call % 150 == 149) {
                    finishAll(x, threads);
                    GAP.nothingLost("seed " + seed, x, cells);
                }
            }
            retires += x.counter(EpochReclaim.C_RETIRES);
        }
        CHECK.same("the runs retired many cells", retires > 2000, true);
    }

    private static void randomCall(EpochReclaim x, Runs.Dice dice, int threads, int advanceWeight) {
        int t = dice.below(threads);
        if (dice.below(20) < advanceWeight) {
            x.tryAdvance();
        } else if (x.phase(t) != EpochReclaim.PH_IDLE) {
            x.run(t, 1 + dice.below(3));
        } else if (dice.below(2) == 0) {
            x.push(t, dice.below(1000));
        } else {
            x.pop(t);
        }
    }

    private static void finishAll(EpochReclaim x, int threads) {
        for (int t = 0; t < threads; t++) {
            x.run(t, 64);
        }
    }

    /** As many cells as there can be, all retired in one epoch, by one thread or by four in turn. */
    private static void limboListFullButNotOver() {
        for (int threads = 2; threads <= 4; threads++) {
            for (int e = 0; e < 3; e++) {
                EpochReclaim x = Runs.fullHeap(32, threads, 3, 0);
                Runs.advances(x, e);
                for (int i = 0; i < 32; i++) {
                    Runs.popWhole(x, i % threads);
                }
                CHECK.same("limboSize(" + e + ")", x.limboSize(e), EpochReclaim.LIMBO_CAP);
                GAP.safe("32 cells retired in epoch " + e, x);
                // A pop more finds nothing, a push more finds no cell: no retire can come on top.
                Runs.popWhole(x, 0);
                CHECK.same("lastResult(0)", x.lastResult(0), EpochReclaim.RES_EMPTY);
                Runs.pushWhole(x, 0, 5);
                CHECK.same("lastResult(0)", x.lastResult(0), EpochReclaim.RES_FULL);
                GAP.safe("32 cells retired in epoch " + e, x);
                CHECK.same("length of the chain", GAP.nothingLost("32 cells retired in epoch " + e, x, 32), 0);
            }
        }
    }

    private static void chainsOfAllLengths() {
        for (int cells : new int[] {8, 9, 31, 32}) {
            for (int n = 0; n <= cells; n++) {
                EpochReclaim x = Runs.fullHeap(cells, 2, 3, 0);
                Runs.popsWhole(x, 1, cells - n);
                CHECK.same("length of the chain", GAP.nothingLost("chain of " + n, x, cells), n);
            }
        }
    }

    /** With three cells retired in each of three epochs: each advance frees the ones of one epoch, once. */
    private static void everyRetiredCellFreedOnce() {
        EpochReclaim x = Runs.fullHeap(9, 3, 3, 0);
        for (int e = 0; e < 3; e++) {
            for (int t = 0; t < 3; t++) {
                Runs.popWhole(x, t);
            }
            Runs.advances(x, e < 2 ? 1 : 0);
        }
        CHECK.same("retires", x.counter(EpochReclaim.C_RETIRES), 9);
        for (int n = 0; n < 3; n++) {
            CHECK.same("free cells", x.counter(EpochReclaim.C_FREE_CELLS), 3 * n);
            CHECK.same("tryAdvance", x.tryAdvance(), true);
        }
        CHECK.same("free cells", x.counter(EpochReclaim.C_FREE_CELLS), 9);
        Runs.advances(x, 6);
        CHECK.same("free cells, later", x.counter(EpochReclaim.C_FREE_CELLS), 9);
        GAP.safe("later", x);
    }
}
