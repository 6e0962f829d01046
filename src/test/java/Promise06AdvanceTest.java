import java.util.List;
import java.util.stream.Collectors;

/** Promise 6: when tryAdvance is refused, and what it frees. */
public final class Promise06AdvanceTest {
    private static final Check CHECK = new Check("promise 6");

    public static void main(String[] args) {
        CHECK.holds("`tryAdvance()` is the only call that moves E and the only one that frees cells.",
            Promise06AdvanceTest::onlyCallThatMovesAndFrees);
        CHECK.holds("It is refused, answering false and changing nothing, if some thread is pinned with announced "
            + "epoch != E.", Promise06AdvanceTest::refusedByEachThreadInEachPhase);
        CHECK.holds("if some thread is pinned with announced epoch != E. [one of several]",
            Promise06AdvanceTest::refusedByOneOfSeveral);
        CHECK.holds("Otherwise [every pinned thread has announced E]", Promise06AdvanceTest::pinnedInTheEpochNow);
        CHECK.holds("Otherwise [a thread that is not pinned has announced an epoch before]",
            Promise06AdvanceTest::notPinnedThreadsDoNotMatter);
        CHECK.holds("E = E + 1; `C_ADVANCES` rises by 1", Promise06AdvanceTest::epochAndAdvancesRise);
        CHECK.holds("j = (E + 3 - gap) mod 3 [with E the new one]", Promise06AdvanceTest::listOfTheNewEpoch);
        CHECK.holds("each entry of limbo list j is freed (see Freeing) [an empty list, one entry, a full list]",
            Promise06AdvanceTest::eachEntryIsFreed);
        CHECK.holds("one by one in order of insertion, first inserted first", Promise06AdvanceTest::orderOfFreeing);
        CHECK.holds("limbo list j becomes empty. It answers true.", Promise06AdvanceTest::listBecomesEmpty);
        CHECK.holds("Each freeing of a non-FREE cell makes it FREE and raises `C_FREE_CELLS` by 1",
            Promise06AdvanceTest::freeingRaisesFreeCells);
        CHECK.holds("each freeing of a cell already FREE, including a cell that appears a second time in the same "
            + "list, is a double free as described. [the same list]", Promise06AdvanceTest::doubleFreeInOneList);
        CHECK.holds("each freeing of a cell already FREE [through another list]",
            Promise06AdvanceTest::doubleFreeAcrossLists);
        CHECK.holds("Thread phases, pins, announced epochs, locals, top, cell values and nexts, and the other two "
            + "limbo lists do not change.", Promise06AdvanceTest::theRestStays);
        CHECK.holds("With no thread pinned, tryAdvance always succeeds.", Promise06AdvanceTest::noThreadPinned);
        CHECK.end();
    }

    private static void onlyCallThatMovesAndFrees() {
        for (int seed = 1; seed <= 60; seed++) {
            Runs.Dice dice = new Runs.Dice(seed);
            EpochReclaim x = seed % 2 == 0 ? Runs.twoCellLoop() : new EpochReclaim(8, 3, 1 + seed % 3);
            for (int i = 0; i < 500; i++) {
                String call = dice.call(x, 3);
                int epoch = x.counter(EpochReclaim.C_EPOCH);
                boolean[] free = freeCells(x);
                Runs.perform(x, call);
                if (!call.equals("tryAdvance")) {
                    CHECK.same(call + ": E", x.counter(EpochReclaim.C_EPOCH), epoch);
                    boolean[] now = freeCells(x);
                    for (int c = 0; c < 8; c++) {
                        CHECK.same(call + ": cell " + c + " became FREE", now[c] && !free[c], false);
                    }
                }
            }
        }
    }

    private static boolean[] freeCells(EpochReclaim x) {
        boolean[] free = new boolean[8];
        for (int c = 0; c < 8; c++) {
            free[c] = x.cell(c, EpochReclaim.CELL_STATE) == EpochReclaim.STATE_FREE;
        }
        return free;
    }

    /** Pinned in epoch e, refused in epoch e + 1, in every phase up to UNPIN; the list to be freed has an entry. */
    private static void refusedByEachThreadInEachPhase() {
        for (int threads = 2; threads <= 4; threads++) {
            for (int t = 0; t < threads; t++) {
                for (boolean pushing : new boolean[] {true, false}) {
                    EpochReclaim x = behind(threads, t, pushing);
                    int[] phases = Runs.phases(pushing);
                    for (int i = 1; i < phases.length; i++) {
                        CHECK.same("phase(" + t + ")", x.phase(t), phases[i]);
                        CHECK.refused(x, "tryAdvance", 0);
                        x.step(t);
                    }
                    CHECK.same("phase(" + t + ")", x.phase(t), EpochReclaim.PH_IDLE);
                    CHECK.same("tryAdvance with " + t + " unpinned", x.tryAdvance(), true);
                }
            }
        }
    }

    private static EpochReclaim behind(int threads, int t, boolean pushing) {
        EpochReclaim x = new EpochReclaim(8, threads, 1);
        Runs.pushWhole(x, 0, 5);
        Runs.pushWhole(x, 0, 6);
        Runs.start(x, t, pushing, 7);
        CHECK.same("tryAdvance before PIN", x.tryAdvance(), true);
        x.step(t);
        CHECK.same("tryAdvance with " + t + " pinned now", x.tryAdvance(), true);
        Runs.popWhole(x, t == 0 ? 1 : 0);
        return x;
    }

    private static void refusedByOneOfSeveral() {
        for (int late = 0; late < 4; late++) {
            EpochReclaim x = new EpochReclaim(8, 4, 3);
            Runs.advances(x, 5);
            x.pop(late);
            x.step(late);
            x.tryAdvance();
            for (int t = 0; t < 4; t++) {
                x.pop(t);
                if (t != late) {
                    x.step(t);
                }
            }
            CHECK.same("announced(" + late + ")", x.announced(late), 5);
            CHECK.refused(x, "tryAdvance", 0);
            for (int t = 0; t < 4; t++) {
                if (t != late) {
                    x.run(t, 64);
                    CHECK.refused(x, "tryAdvance", 0);
                }
            }
            x.run(late, 64);
            CHECK.same("tryAdvance with none pinned", x.tryAdvance(), true);
        }
    }

    private static void pinnedInTheEpochNow() {
        for (int pinned = 1; pinned <= 4; pinned++) {
            EpochReclaim x = new EpochReclaim(8, 4, 3);
            Runs.advances(x, 5);
            for (int t = 0; t < pinned; t++) {
                x.pop(t);
                x.step(t);
            }
            CHECK.same("tryAdvance with " + pinned + " pinned now", x.tryAdvance(), true);
            CHECK.same("announced(0)", x.announced(0), 5);
            CHECK.refused(x, "tryAdvance", 0);
        }
    }

    private static void notPinnedThreadsDoNotMatter() {
        EpochReclaim x = new EpochReclaim(8, 2, 3);
        Runs.pushWhole(x, 0, 5);
        Runs.advances(x, 4);
        x.push(0, 6);
        x.pop(1);
        for (int n = 5; n <= 9; n++) {
            CHECK.same("tryAdvance before PIN", x.tryAdvance(), true);
            CHECK.same("E", x.counter(EpochReclaim.C_EPOCH), n);
        }
        x.step(0);
        CHECK.same("announced(0)", x.announced(0), 9);
    }

    private static void epochAndAdvancesRise() {
        EpochReclaim x = new EpochReclaim(8, 2, 2);
        for (int n = 1; n <= 10; n++) {
            CHECK.same("tryAdvance " + n, x.tryAdvance(), true);
            CHECK.same("E", x.counter(EpochReclaim.C_EPOCH), n);
            CHECK.same("advances", x.counter(EpochReclaim.C_ADVANCES), n);
        }
        x.pop(0);
        x.step(0);
        x.tryAdvance();
        CHECK.same("tryAdvance", x.tryAdvance(), false);
        CHECK.same("E", x.counter(EpochReclaim.C_EPOCH), 11);
        CHECK.same("advances", x.counter(EpochReclaim.C_ADVANCES), 11);
    }

    /** Thread 0 retires a cell in each epoch, thread 1 one into the list of the epoch before. */
    private static void listOfTheNewEpoch() {
        for (int gap = 1; gap <= 3; gap++) {
            EpochReclaim x = new EpochReclaim(32, 2, gap);
            for (int n = 1; n <= 12; n++) {
                Runs.pushWhole(x, 0, n);
                Runs.pushWhole(x, 0, n);
                Runs.popWhole(x, 0);
                x.run(1, 64);
                x.pop(1);
                x.step(1);
                boolean full = x.limboSize((n + 3 - gap) % 3) > 0;
                x.tryAdvance();
                CHECK.same("gap " + gap + ", E " + n + ": the list had entries", full, n >= gap);
                CHECK.limbo(x, (n + 3 - gap) % 3);
                if (gap != 1) {
                    CHECK.same("gap " + gap + ", E " + n + ": the list of E - 1 keeps its entries",
                        x.limboSize((n + 2) % 3) > 0, true);
                }
            }
        }
    }

    private static void eachEntryIsFreed() {
        for (int size : new int[] {0, 1, 2, 31, 32}) {
            EpochReclaim x = Runs.fullHeap(32, 2, 1, 0);
            Runs.popsWhole(x, 0, size);
            List<String> before = Check.state(x);
            CHECK.same("tryAdvance with " + size + " entries", x.tryAdvance(), true);
            for (int c = 0; c < 32; c++) {
                CHECK.same("state of cell " + c, x.cell(c, EpochReclaim.CELL_STATE),
                    c >= 32 - size ? EpochReclaim.STATE_FREE : EpochReclaim.STATE_LIVE);
            }
            CHECK.same("free cells", x.counter(EpochReclaim.C_FREE_CELLS), size);
            CHECK.traps(x, 0, 0, EpochReclaim.NIL);
            if (size == 0) {
                CHECK.sameStateBut("nothing to free", Check.state(x), before, "counter(4", "counter(7");
            }
        }
    }

    /** Freed in the order 0, 2, 0, 2 the latest double free is of cell 2; in the order 2, 0, 2, 0 it is of cell 0. */
    private static void orderOfFreeing() {
        EpochReclaim x = Runs.twoCellLoop();
        Runs.popsWhole(x, 0, 4);
        CHECK.limbo(x, 1, 0, 2, 0, 2);
        x.tryAdvance();
        CHECK.traps(x, 0, 2, 2);

        EpochReclaim y = Runs.twoCellLoop();
        y.pop(0);
        y.step(0);
        y.tryAdvance();
        y.run(0, 64);
        CHECK.same("top()", y.top(), 2);
        Runs.popsWhole(y, 0, 4);
        CHECK.limbo(y, 2, 2, 0, 2, 0);
        y.tryAdvance();
        CHECK.traps(y, 0, 2, 0);
    }

    private static void listBecomesEmpty() {
        for (int size = 0; size <= 40; size += 8) {
            EpochReclaim x = Runs.selfLoop();
            Runs.popsWhole(x, 0, size);
            CHECK.same("limboSize(1)", x.limboSize(1), Math.min(size, EpochReclaim.LIMBO_CAP));
            CHECK.same("tryAdvance", x.tryAdvance(), true);
            CHECK.limbo(x, 1);
            CHECK.same("limboCell(1, 0)", x.limboCell(1, 0), -1);
            Runs.advances(x, 2);
            Runs.popWhole(x, 0);
            CHECK.same("E", x.counter(EpochReclaim.C_EPOCH), 4);
            CHECK.limbo(x, 1, 0);
        }
    }

    private static void freeingRaisesFreeCells() {
        EpochReclaim x = new EpochReclaim(8, 2, 3);
        for (int e = 0; e < 3; e++) {
            Runs.pushWhole(x, 0, 10 + e);
            Runs.pushWhole(x, 0, 20 + e);
            Runs.popsWhole(x, 0, 2);
            Runs.advances(x, e < 2 ? 1 : 0);
        }
        for (int n = 0; n < 3; n++) {
            CHECK.same("free cells", x.counter(EpochReclaim.C_FREE_CELLS), 2 + 2 * n);
            CHECK.same("state before", x.cell(2 * n, 0), EpochReclaim.STATE_RETIRED);
            CHECK.same("state before", x.cell(2 * n + 1, 0), EpochReclaim.STATE_RETIRED);
            x.tryAdvance();
            CHECK.same("state", x.cell(2 * n, 0), EpochReclaim.STATE_FREE);
            CHECK.same("state", x.cell(2 * n + 1, 0), EpochReclaim.STATE_FREE);
        }
        CHECK.same("free cells", x.counter(EpochReclaim.C_FREE_CELLS), 8);
    }

    private static void doubleFreeInOneList() {
        for (int entries = 1; entries <= EpochReclaim.LIMBO_CAP; entries++) {
            EpochReclaim x = Runs.selfLoop();
            Runs.popsWhole(x, 0, entries);
            int free = x.counter(EpochReclaim.C_FREE_CELLS);
            x.tryAdvance();
            CHECK.traps(x, 0, entries - 1, entries == 1 ? EpochReclaim.NIL : 0);
            CHECK.same("free cells", x.counter(EpochReclaim.C_FREE_CELLS), free + 1);
            CHECK.cell(x, 0, EpochReclaim.STATE_FREE, 30, 0);
        }
    }

    /** The cell is freed through list 1, found FREE in list 2, and found FREE in list 1 once more. */
    private static void doubleFreeAcrossLists() {
        EpochReclaim x = Runs.selfLoop();
        x.pop(1);
        x.step(1);
        Runs.popWhole(x, 0);
        CHECK.same("tryAdvance to 2", x.tryAdvance(), true);
        CHECK.traps(x, 0, 0, EpochReclaim.NIL);
        x.run(1, 64);
        Runs.popWhole(x, 0);
        CHECK.limbo(x, 1, 0);
        CHECK.limbo(x, 2, 0);
        CHECK.same("tryAdvance to 3", x.tryAdvance(), true);
        CHECK.traps(x, 2, 1, 0);
        CHECK.limbo(x, 1, 0);
        CHECK.limbo(x, 2);
        int free = x.counter(EpochReclaim.C_FREE_CELLS);
        x.tryAdvance();
        CHECK.same("free cells, with cell 1 freed", x.counter(EpochReclaim.C_FREE_CELLS), free + 1);
        x.tryAdvance();
        CHECK.traps(x, 2, 2, 0);
        CHECK.same("free cells", x.counter(EpochReclaim.C_FREE_CELLS), free + 1);
    }

    private static void theRestStays() {
        for (Situations.Situation situation : Situations.all()) {
            EpochReclaim x = situation.make();
            for (int n = 0; n < 3; n++) {
                List<String> before = Check.state(x);
                boolean answer = x.tryAdvance();
                int j = (x.counter(EpochReclaim.C_EPOCH) + 3 - situation.gap) % 3;
                CHECK.sameStateBut(situation.name + ", tryAdvance: " + answer, withoutStates(x), withoutStates(before),
                    "limboSize(" + j, "limboCell(" + j, "counter(1)", "counter(2)", "counter(4)", "counter(5)",
                    "counter(7)");
            }
        }
    }

    private static List<String> withoutStates(EpochReclaim x) {
        return withoutStates(Check.state(x));
    }

    private static List<String> withoutStates(List<String> rows) {
        return rows.stream().filter(row -> !row.matches("cell\\(\\d+, 0\\).*"))
            .collect(Collectors.toList());
    }

    private static void noThreadPinned() {
        for (Situations.Situation situation : Situations.all()) {
            EpochReclaim x = situation.make();
            for (int t = 0; t < situation.threads; t++) {
                x.run(t, 64);
            }
            for (int n = 0; n < 7; n++) {
                CHECK.same(situation.name + ": tryAdvance with no thread pinned", x.tryAdvance(), true);
            }
            x.push(0, 5);
            x.pop(1);
            CHECK.same(situation.name + ": tryAdvance before PIN", x.tryAdvance(), true);
        }
    }
}
