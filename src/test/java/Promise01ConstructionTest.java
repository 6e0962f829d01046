/** Promise 1: clamping, the state at the start, and the list that each gap frees. */
public final class Promise01ConstructionTest {
    private static final Check CHECK = new Check("promise 1");
    private static final int[] FAR = {Integer.MIN_VALUE, Integer.MIN_VALUE + 1, -65536, -256, -32, -8, 256, 264, 65544,
        Integer.MAX_VALUE - 1, Integer.MAX_VALUE};

    public static void main(String[] args) {
        CHECK.holds("`EpochReclaim(cells, threads, gap)` accepts any ints and never fails.",
            Promise01ConstructionTest::anyIntsAreAccepted);
        CHECK.holds("`cells` is clamped into 8..32 (below 8 becomes 8, above 32 becomes 32)",
            () -> forIntsAround(40, Promise01ConstructionTest::cellsAreClamped));
        CHECK.holds("`threads` is clamped into 2..4 likewise",
            () -> forIntsAround(8, Promise01ConstructionTest::threadsAreClamped));
        CHECK.holds("`gap` is clamped into 1..3 likewise",
            () -> forIntsAround(8, Promise01ConstructionTest::gapIsClamped));
        CHECK.holds("These three values never change afterwards.", Promise01ConstructionTest::valuesNeverChange);
        CHECK.holds("when E advances to a new value N, the list freed is number (N + 3 - gap) mod 3.",
            Promise01ConstructionTest::listFreed);
        CHECK.holds("Gap 3 frees the list last filled in epoch N-3, gap 2 the one of N-2, gap 1 the one of N-1.",
            Promise01ConstructionTest::listLastFilled);
        CHECK.holds("every cell is FREE with value 0 and next NIL; top is NIL; E is 0; all three limbo lists are "
            + "empty.", () -> forAllSizes(Promise01ConstructionTest::heapAtTheStart));
        CHECK.holds("Every thread has phase `PH_IDLE`, is not pinned, has announced epoch 0, kind `KIND_NONE`, mine "
            + "NIL, seen NIL, value 0, result `RES_NONE`, lastResult `RES_NONE` and lastValue 0.",
            () -> forAllSizes(Promise01ConstructionTest::threadsAtTheStart));
        CHECK.holds("Counters: `C_ACCESS_TRAPS` 0, `C_DOUBLE_FREES` 0, `C_LAST_TRAP_CELL` NIL, `C_DROPPED` 0, "
            + "`C_ADVANCES` 0, `C_FREE_CELLS` equal to the clamped cells, `C_RETIRES` 0, `C_EPOCH` 0.",
            () -> forAllSizes(Promise01ConstructionTest::countersAtTheStart));
        CHECK.end();
    }

    private interface OneInt {
        void check(int given);
    }

    private interface Sizes {
        void check(int cells, int threads, int gap);
    }

    private static void forIntsAround(int reach, OneInt test) {
        for (int given = -reach; given <= reach; given++) {
            test.check(given);
        }
        for (int given : FAR) {
            test.check(given);
        }
    }

    private static void forAllSizes(Sizes test) {
        for (int cells = 8; cells <= 32; cells++) {
            for (int threads = 2; threads <= 4; threads++) {
                for (int gap = 1; gap <= 3; gap++) {
                    test.check(cells, threads, gap);
                }
            }
        }
    }

    private static int clamped(int given, int least, int greatest) {
        return Math.max(least, Math.min(greatest, given));
    }

    private static void anyIntsAreAccepted() {
        int[] ints = {Integer.MIN_VALUE, -1, 0, 1, 2, 3, 4, 5, 7, 8, 9, 31, 32, 33, Integer.MAX_VALUE};
        for (int cells : ints) {
            for (int threads : ints) {
                for (int gap : ints) {
                    checkSizes(new EpochReclaim(cells, threads, gap), clamped(cells, 8, 32), clamped(threads, 2, 4),
                        clamped(gap, 1, 3));
                }
            }
        }
    }

    /** The object must be idle, with an empty stack, empty limbo lists and every cell FREE. */
    private static void checkSizes(EpochReclaim x, int cells, int threads, int gap) {
        String of = cells + " cells, " + threads + " threads, gap " + gap + ": ";
        CHECK.same(of + "state of the last cell", x.cell(cells - 1, 0), EpochReclaim.STATE_FREE);
        CHECK.same(of + "state of the cell after it", x.cell(cells, 0), -1);
        CHECK.same(of + "phase of the last thread", x.phase(threads - 1), EpochReclaim.PH_IDLE);
        CHECK.same(of + "phase of the thread after it", x.phase(threads), -1);
        Runs.pushWhole(x, 0, 5);
        Runs.popWhole(x, 0);
        for (int n = 1; n < gap; n++) {
            x.tryAdvance();
            CHECK.same(of + "state after advance " + n, x.cell(0, 0), EpochReclaim.STATE_RETIRED);
        }
        x.tryAdvance();
        CHECK.same(of + "state after advance " + gap, x.cell(0, 0), EpochReclaim.STATE_FREE);
    }

    private static void cellsAreClamped(int given) {
        int due = clamped(given, 8, 32);
        EpochReclaim x = new EpochReclaim(given, 2, 3);
        String made = "new EpochReclaim(" + given + ", 2, 3): ";
        CHECK.same(made + "free cells", x.counter(EpochReclaim.C_FREE_CELLS), due);
        CHECK.same(made + "state of the last cell", x.cell(due - 1, 0), EpochReclaim.STATE_FREE);
        CHECK.same(made + "state of the cell after it", x.cell(due, 0), -1);
        for (int c = 0; c < due; c++) {
            Runs.pushWhole(x, 0, c);
            CHECK.same(made + "result of push " + c, x.lastResult(0), EpochReclaim.RES_OK);
        }
        Runs.pushWhole(x, 0, due);
        CHECK.same(made + "result of one push more", x.lastResult(0), EpochReclaim.RES_FULL);
    }

    private static void threadsAreClamped(int given) {
        int due = clamped(given, 2, 4);
        EpochReclaim x = new EpochReclaim(8, given, 3);
        String made = "new EpochReclaim(8, " + given + ", 3): ";
        for (int t = 0; t < due; t++) {
            CHECK.same(made + "phase(" + t + ")", x.phase(t), EpochReclaim.PH_IDLE);
            CHECK.same(made + "pop(" + t + ")", x.pop(t), true);
            CHECK.same(made + "step(" + t + ")", x.step(t), EpochReclaim.PH_PIN);
        }
        CHECK.same(made + "phase(" + due + ")", x.phase(due), -1);
        CHECK.same(made + "pop(" + due + ")", x.pop(due), false);
    }

    private static void gapIsClamped(int given) {
        int due = clamped(given, 1, 3);
        EpochReclaim x = new EpochReclaim(8, 2, given);
        String made = "new EpochReclaim(8, 2, " + given + "): ";
        Runs.pushWhole(x, 0, 5);
        Runs.popWhole(x, 0);
        for (int n = 1; n <= 3; n++) {
            CHECK.same(made + "limboSize(0) before advance " + n, x.limboSize(0), n <= due ? 1 : 0);
            x.tryAdvance();
        }
        CHECK.same(made + "limboSize(0) after three advances", x.limboSize(0), 0);
    }

    /** Whole operations and refused calls, with a heap full and empty in turn. */
    private static void valuesNeverChange() {
        forAllSizes((cells, threads, gap) -> {
            EpochReclaim x = new EpochReclaim(cells, threads, gap);
            for (int i = 0; i <= cells; i++) {
                Runs.pushWhole(x, i % threads, i);
            }
            for (int i = 0; i <= cells; i++) {
                Runs.popWhole(x, i % threads);
            }
            Runs.performAll(x, "push 4 5", "pop -1", "step 0", "run 99 0", "tryAdvance", "tryAdvance", "tryAdvance");
            checkSizes(x, cells, threads, gap);
        });
    }

    /**
     * In each epoch thread 0 retires a cell at once, and thread 1 pins but retires in the epoch after, so that the
     * list freed is never the only one with entries.
     */
    private static void listFreed() {
        for (int gap = 1; gap <= 3; gap++) {
            EpochReclaim x = new EpochReclaim(32, 2, gap);
            for (int n = 1; n <= 12; n++) {
                Runs.pushWhole(x, 0, n);
                Runs.pushWhole(x, 0, n);
                Runs.popWhole(x, 0);
                x.run(1, 64);
                x.pop(1);
                x.step(1);
                int[] sizes = {x.limboSize(0), x.limboSize(1), x.limboSize(2)};
                CHECK.same("tryAdvance to " + n, x.tryAdvance(), true);
                int j = (n + 3 - gap) % 3;
                for (int k = 0; k < 3; k++) {
                    CHECK.same("gap " + gap + ", E " + n + ": limboSize(" + k + ")", x.limboSize(k),
                        k == j ? 0 : sizes[k]);
                }
                CHECK.same("gap " + gap + ": the list had entries", n < gap || sizes[j] > 0, true);
            }
        }
    }

    /** A cell retired in epoch e is freed by the advance to e + gap, for each of the three lists. */
    private static void listLastFilled() {
        for (int gap = 1; gap <= 3; gap++) {
            for (int e = 0; e < 7; e++) {
                EpochReclaim x = new EpochReclaim(8, 2, gap);
                Runs.advances(x, e);
                Runs.pushWhole(x, 0, 5);
                Runs.popWhole(x, 0);
                String of = "gap " + gap + ", epoch " + e + ": ";
                for (int n = 1; n <= gap; n++) {
                    CHECK.same(of + "state before advance " + n, x.cell(0, 0), EpochReclaim.STATE_RETIRED);
                    CHECK.same(of + "size before advance " + n, x.limboSize(e % 3), 1);
                    x.tryAdvance();
                }
                CHECK.same(of + "state at last", x.cell(0, 0), EpochReclaim.STATE_FREE);
                CHECK.same(of + "size at last", x.limboSize(e % 3), 0);
            }
        }
    }

    private static void heapAtTheStart(int cells, int threads, int gap) {
        EpochReclaim x = new EpochReclaim(cells, threads, gap);
        for (int c = 0; c < cells; c++) {
            CHECK.cell(x, c, EpochReclaim.STATE_FREE, 0, EpochReclaim.NIL);
        }
        CHECK.same("top()", x.top(), EpochReclaim.NIL);
        CHECK.same("E", x.counter(EpochReclaim.C_EPOCH), 0);
        for (int k = 0; k < 3; k++) {
            CHECK.limbo(x, k);
            CHECK.same("limboCell(" + k + ", 0)", x.limboCell(k, 0), -1);
        }
    }

    private static void threadsAtTheStart(int cells, int threads, int gap) {
        EpochReclaim x = new EpochReclaim(cells, threads, gap);
        for (int t = 0; t < threads; t++) {
            CHECK.same("phase(" + t + ")", x.phase(t), EpochReclaim.PH_IDLE);
            CHECK.same("announced(" + t + ")", x.announced(t), -1);
            CHECK.locals(x, t, EpochReclaim.KIND_NONE, EpochReclaim.NIL, EpochReclaim.NIL, 0, EpochReclaim.RES_NONE);
            CHECK.same("lastResult(" + t + ")", x.lastResult(t), EpochReclaim.RES_NONE);
            CHECK.same("lastValue(" + t + ")", x.lastValue(t), 0);
        }
    }

    private static void countersAtTheStart(int cells, int threads, int gap) {
        CHECK.counters("at the start", new EpochReclaim(cells, threads, gap), 0, 0, EpochReclaim.NIL, 0, 0, cells, 0,
            0);
    }
}
