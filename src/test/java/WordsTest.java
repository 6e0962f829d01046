import java.util.List;

/** The section 'Words used below'. */
public final class WordsTest {
    private static final Check CHECK = new Check("words used below");

    public static void main(String[] args) {
        CHECK.holds("Cell c has a state (`STATE_FREE`, `STATE_LIVE` or `STATE_RETIRED`), a value (any int) and a next "
            + "(a cell number or NIL).", WordsTest::cellsHoldWhatTheyMay);
        CHECK.holds("Freeing changes only the state.", WordsTest::freeingChangesOnlyTheState);
        CHECK.holds("Only the steps `PH_LINK` and `PH_READ_CELL` access a cell.", WordsTest::otherStepsNeverTrap);
        CHECK.holds("If that cell is FREE at that moment the access TRAPS: `C_ACCESS_TRAPS` rises by 1 and "
            + "`C_LAST_TRAP_CELL` becomes that cell", WordsTest::onlyAFreeCellTraps);
        CHECK.holds("then the access is carried out on the stored value and next all the same, and the state stays "
            + "FREE.", WordsTest::trappingAccessIsCarriedOut);
        CHECK.holds("**Freeing** (happens only inside `tryAdvance`).", WordsTest::onlyAdvancesFree);
        CHECK.holds("If the cell is already FREE this is a DOUBLE FREE: `C_DOUBLE_FREES` rises by 1, "
            + "`C_LAST_TRAP_CELL` becomes the cell, and nothing else changes.", WordsTest::doubleFree);
        CHECK.holds("Otherwise the state becomes FREE.", WordsTest::retiredAndLiveCellsBecomeFree);
        CHECK.holds("**Allocation** always takes the FREE cell with the lowest number.",
            WordsTest::lowestFreeCellIsTaken);
        CHECK.holds("**top**: a cell number or NIL.", WordsTest::topIsACellOrNil);
        CHECK.holds("each a sequence of at most `LIMBO_CAP` cell numbers in order of insertion",
            WordsTest::limboListIsBounded);
        CHECK.holds("the same cell may appear more than once.", WordsTest::sameCellTwiceInLimbo);
        CHECK.holds("Each has a phase (the step it executes next; `PH_IDLE` when no operation is in progress)",
            WordsTest::phaseIsTheNextStep);
        CHECK.holds("a pinned flag, an announced epoch", WordsTest::pinnedBetweenPinAndUnpin);
        CHECK.holds("Locals keep their values after an operation ends until the next one starts.",
            WordsTest::localsAreKept);
        CHECK.holds("`C_FREE_CELLS` always equals the number of cells now FREE, and `C_EPOCH` always equals E.",
            WordsTest::countersFollowTheState);
        CHECK.end();
    }

    private interface OneCall {
        /** The call has been made; the copy is what the object was before it. */
        void check(String call, int answer, EpochReclaim before, EpochReclaim x);
    }

    /** Fixed runs with each gap, the odd ones with a stack that runs in a circle; 8 cells and 3 threads. */
    private static void afterEachCall(OneCall test) {
        for (int seed = 1; seed <= 24; seed++) {
            Runs.Dice dice = new Runs.Dice(seed);
            int gap = seed % 2 == 0 ? 1 + seed % 3 : 1;
            EpochReclaim x = seed % 2 == 0 ? new EpochReclaim(8, 3, gap) : Runs.twoCellLoop();
            for (int i = 0; i < 400; i++) {
                String call = dice.call(x, 3);
                EpochReclaim before = Inside.copyOf(x, 8, 3, gap);
                int answer = Runs.perform(x, call);
                test.check(call, answer, before, x);
            }
        }
    }

    private static boolean isCellOrNil(int c) {
        return c >= EpochReclaim.NIL && c < 8;
    }

    private static void cellsHoldWhatTheyMay() {
        int[] seen = new int[3];
        afterEachCall((call, answer, before, x) -> {
            for (int c = 0; c < 8; c++) {
                int state = x.cell(c, EpochReclaim.CELL_STATE);
                CHECK.same("a state that is one", state >= 0 && state <= 2, true);
                CHECK.same("a next that is one", isCellOrNil(x.cell(c, EpochReclaim.CELL_NEXT)), true);
                seen[state]++;
            }
        });
        for (int state = 0; state < 3; state++) {
            CHECK.same("state " + state + " was met", seen[state] > 0, true);
        }
        for (int v : Edges.VALUES) {
            EpochReclaim x = new EpochReclaim(8, 2, 3);
            Runs.pushWhole(x, 0, v);
            CHECK.cell(x, 0, EpochReclaim.STATE_LIVE, v, -1);
        }
    }

    private static void onlyAdvancesFree() {
        int[] freed = new int[1];
        afterEachCall((call, answer, before, x) -> {
            for (int c = 0; c < 8; c++) {
                if (x.cell(c, EpochReclaim.CELL_STATE) == EpochReclaim.STATE_FREE
                    && before.cell(c, EpochReclaim.CELL_STATE) != EpochReclaim.STATE_FREE) {
                    CHECK.same(call + " freed a cell", call.equals("tryAdvance"), true);
                    freed[0]++;
                }
            }
            if (x.counter(EpochReclaim.C_DOUBLE_FREES) != before.counter(EpochReclaim.C_DOUBLE_FREES)) {
                CHECK.same(call + " freed a FREE cell", call.equals("tryAdvance"), true);
            }
        });
        CHECK.same("cells were freed", freed[0] > 100, true);
    }

    private static void topIsACellOrNil() {
        boolean[] met = new boolean[9];
        afterEachCall((call, answer, before, x) -> {
            CHECK.same("a top that is one", isCellOrNil(x.top()), true);
            met[x.top() + 1] = true;
        });
        CHECK.same("NIL was met, and a cell", met[0] && met[1], true);
    }

    private static void phaseIsTheNextStep() {
        afterEachCall((call, answer, before, x) -> {
            if (call.startsWith("step")) {
                CHECK.same(call, answer, before.phase(Integer.parseInt(call.substring(5))));
            }
        });
        boolean[] inProgress = new boolean[3];
        EpochReclaim x = new EpochReclaim(8, 3, 3);
        Runs.Dice dice = new Runs.Dice(7);
        for (int i = 0; i < 2000; i++) {
            String call = dice.call(x, 3);
            int answer = Runs.perform(x, call);
            if (!call.equals("tryAdvance")) {
                int t = Integer.parseInt(call.split(" ")[1]);
                inProgress[t] = !call.startsWith("step") || answer != EpochReclaim.PH_UNPIN;
            }
            for (int t = 0; t < 3; t++) {
                CHECK.same("phase(" + t + ") is not PH_IDLE", x.phase(t) != EpochReclaim.PH_IDLE, inProgress[t]);
            }
        }
    }

    private static void pinnedBetweenPinAndUnpin() {
        afterEachCall((call, answer, before, x) -> {
            for (int t = 0; t < 3; t++) {
                int phase = x.phase(t);
                boolean pinned = phase != EpochReclaim.PH_IDLE && phase != EpochReclaim.PH_PIN;
                boolean justPinned = call.equals("step " + t) && answer == EpochReclaim.PH_PIN;
                int due = justPinned ? x.counter(EpochReclaim.C_EPOCH) : before.announced(t);
                CHECK.same("announced(" + t + ") after " + call, x.announced(t), pinned ? due : -1);
            }
        });
    }

    private static void freeingChangesOnlyTheState() {
        EpochReclaim x = new EpochReclaim(8, 2, 3);
        Runs.pushWhole(x, 0, 5);
        Runs.pushWhole(x, 0, Integer.MIN_VALUE);
        Runs.popWhole(x, 0);
        Runs.popWhole(x, 0);
        Runs.advances(x, 2);
        CHECK.cell(x, 0, EpochReclaim.STATE_RETIRED, 5, -1);
        CHECK.cell(x, 1, EpochReclaim.STATE_RETIRED, Integer.MIN_VALUE, 0);
        x.tryAdvance();
        CHECK.cell(x, 0, EpochReclaim.STATE_FREE, 5, -1);
        CHECK.cell(x, 1, EpochReclaim.STATE_FREE, Integer.MIN_VALUE, 0);
    }

    /** Cell 0 is FREE, links to itself, and is the top: every step of a pop meets it, and two steps of a push. */
    private static void otherStepsNeverTrap() {
        EpochReclaim x = freeSelfLoop();
        x.pop(1);
        for (int phase : Runs.phases(false)) {
            int before = x.counter(EpochReclaim.C_ACCESS_TRAPS);
            CHECK.same("step(1)", x.step(1), phase);
            CHECK.same("access traps in phase " + phase, x.counter(EpochReclaim.C_ACCESS_TRAPS) - before,
                phase == EpochReclaim.PH_READ_CELL ? 1 : 0);
        }
        EpochReclaim y = freeMineOfPush();
        for (int phase = y.phase(0); phase != EpochReclaim.PH_IDLE; phase = y.phase(0)) {
            int before = y.counter(EpochReclaim.C_ACCESS_TRAPS);
            CHECK.same("step(0)", y.step(0), phase);
            CHECK.same("access traps in phase " + phase, y.counter(EpochReclaim.C_ACCESS_TRAPS) - before,
                phase == EpochReclaim.PH_LINK ? 1 : 0);
        }
        EpochReclaim z = freeSelfLoop();
        z.push(1, 7);
        Runs.steps(z, 1, 2);
        CHECK.same("ALLOC took the FREE cell", z.local(1, EpochReclaim.L_MINE), 0);
        CHECK.traps(z, 0, 0, -1);
    }

    private static EpochReclaim freeSelfLoop() {
        EpochReclaim x = Runs.selfLoop();
        Runs.popWhole(x, 0);
        x.tryAdvance();
        CHECK.cell(x, 0, EpochReclaim.STATE_FREE, 30, 0);
        CHECK.same("top()", x.top(), 0);
        return x;
    }

    /** Thread 0's own cell 0 was popped by thread 2 and freed before thread 0 reads the top. */
    private static EpochReclaim freeMineOfPush() {
        EpochReclaim x = Runs.topStolenFromPush();
        Runs.popWhole(x, 2);
        Runs.pushWhole(x, 2, 50);
        x.tryAdvance();
        CHECK.same("state of mine", x.cell(0, EpochReclaim.CELL_STATE), EpochReclaim.STATE_FREE);
        CHECK.same("mine", x.local(0, EpochReclaim.L_MINE), 0);
        CHECK.traps(x, 0, 0, -1);
        return x;
    }

    private static void onlyAFreeCellTraps() {
        EpochReclaim live = stalePop();
        live.step(1);
        CHECK.traps(live, 0, 0, -1);

        EpochReclaim retired = stalePop();
        Runs.popWhole(retired, 0);
        CHECK.same("state", retired.cell(1, EpochReclaim.CELL_STATE), EpochReclaim.STATE_RETIRED);
        retired.step(1);
        CHECK.traps(retired, 0, 0, -1);

        EpochReclaim free = stalePop();
        Runs.popWhole(free, 0);
        free.tryAdvance();
        CHECK.same("state", free.cell(1, EpochReclaim.CELL_STATE), EpochReclaim.STATE_FREE);
        free.step(1);
        CHECK.traps(free, 1, 0, 1);

        EpochReclaim liveAgain = stalePop();
        Runs.popWhole(liveAgain, 0);
        liveAgain.tryAdvance();
        Runs.pushWhole(liveAgain, 0, 9);
        CHECK.same("state", liveAgain.cell(1, EpochReclaim.CELL_STATE), EpochReclaim.STATE_LIVE);
        liveAgain.step(1);
        CHECK.traps(liveAgain, 0, 0, -1);
    }

    /** Gap 1: thread 1 is about to read cell 1, the top of two. */
    private static EpochReclaim stalePop() {
        EpochReclaim x = new EpochReclaim(8, 2, 1);
        Runs.pushWhole(x, 0, 5);
        Runs.pushWhole(x, 0, 7);
        x.pop(1);
        Runs.steps(x, 1, 2);
        return x;
    }

    private static void trappingAccessIsCarriedOut() {
        EpochReclaim x = stalePop();
        Runs.popWhole(x, 0);
        x.tryAdvance();
        x.step(1);
        CHECK.locals(x, 1, EpochReclaim.KIND_POP, 1, 0, 7, EpochReclaim.RES_NONE);
        CHECK.cell(x, 1, EpochReclaim.STATE_FREE, 7, 0);

        EpochReclaim y = freeMineOfPush();
        Runs.steps(y, 0, 2);
        CHECK.traps(y, 1, 0, 0);
        CHECK.cell(y, 0, EpochReclaim.STATE_FREE, 30, 2);
    }

    private static void doubleFree() {
        EpochReclaim x = Runs.selfLoop();
        Runs.popsWhole(x, 0, 2);
        CHECK.same("free cells", x.counter(EpochReclaim.C_FREE_CELLS), 6);
        x.tryAdvance();
        CHECK.traps(x, 0, 1, 0);
        CHECK.same("free cells", x.counter(EpochReclaim.C_FREE_CELLS), 7);
        Runs.popWhole(x, 0);
        List<String> before = Check.state(x);
        x.tryAdvance();
        CHECK.traps(x, 1, 2, 0);
        CHECK.sameStateBut("a double free", Check.state(x), before, "limboSize(2", "limboCell(2", "counter(1",
            "counter(4", "counter(7");
    }

    /** A cell in limbo may be LIVE once more: it was freed, listed again while FREE, and then allocated. */
    private static void retiredAndLiveCellsBecomeFree() {
        EpochReclaim x = Runs.selfLoop();
        x.pop(1);
        x.step(1);
        Runs.popWhole(x, 0);
        CHECK.same("state", x.cell(0, EpochReclaim.CELL_STATE), EpochReclaim.STATE_RETIRED);
        x.tryAdvance();
        CHECK.same("state of a RETIRED cell, freed", x.cell(0, EpochReclaim.CELL_STATE), EpochReclaim.STATE_FREE);
        x.run(1, 64);
        CHECK.limbo(x, 1, 0);
        Runs.pushWhole(x, 0, 60);
        CHECK.same("state", x.cell(0, EpochReclaim.CELL_STATE), EpochReclaim.STATE_LIVE);
        Runs.advances(x, 2);
        int free = x.counter(EpochReclaim.C_FREE_CELLS);
        CHECK.same("tryAdvance", x.tryAdvance(), true);
        CHECK.limbo(x, 1);
        CHECK.cell(x, 0, EpochReclaim.STATE_FREE, 60, 0);
        CHECK.same("free cells", x.counter(EpochReclaim.C_FREE_CELLS), free + 1);
        CHECK.same("double frees", x.counter(EpochReclaim.C_DOUBLE_FREES), 0);
    }

    private static void lowestFreeCellIsTaken() {
        for (int cells : new int[] {8, 9, 31, 32}) {
            EpochReclaim x = new EpochReclaim(cells, 2, 3);
            for (int c = 0; c < cells; c++) {
                Runs.pushWhole(x, 0, c);
                CHECK.same("cell number " + c + " of " + cells, x.local(0, EpochReclaim.L_MINE), c);
            }
            // The whole heap is FREE again, then all but the first cell, then only one in the midst.
            Runs.popsWhole(x, 0, cells);
            Runs.advances(x, 3);
            for (int c = 0; c < cells; c++) {
                Runs.pushWhole(x, 0, c);
                CHECK.same("cell number " + c + " anew", x.local(0, EpochReclaim.L_MINE), c);
            }
            Runs.popsWhole(x, 0, cells - 3);
            Runs.advances(x, 3);
            Runs.pushWhole(x, 1, 9);
            CHECK.same("above three that are LIVE", x.local(1, EpochReclaim.L_MINE), 3);
        }
    }

    private static void limboListIsBounded() {
        EpochReclaim x = Runs.fullHeap(32, 2, 3, 0);
        Runs.popsWhole(x, 0, 31);
        CHECK.same("limboSize(0)", x.limboSize(0), 31);
        Runs.popWhole(x, 0);
        CHECK.same("limboSize(0)", x.limboSize(0), EpochReclaim.LIMBO_CAP);
        for (int i = 0; i < 32; i++) {
            CHECK.same("limboCell(0, " + i + ")", x.limboCell(0, i), 31 - i);
        }
        EpochReclaim y = Runs.selfLoop();
        Runs.popsWhole(y, 0, 33);
        CHECK.same("limboSize(1)", y.limboSize(1), EpochReclaim.LIMBO_CAP);
        Runs.popWhole(y, 0);
        CHECK.same("limboSize(1)", y.limboSize(1), EpochReclaim.LIMBO_CAP);
    }

    private static void sameCellTwiceInLimbo() {
        EpochReclaim x = Runs.twoCellLoop();
        Runs.popsWhole(x, 0, 5);
        CHECK.limbo(x, 1, 0, 2, 0, 2, 0);
        EpochReclaim y = Runs.selfLoop();
        Runs.popsWhole(y, 0, 3);
        CHECK.limbo(y, 1, 0, 0, 0);
    }

    private static void localsAreKept() {
        EpochReclaim x = new EpochReclaim(8, 2, 3);
        Runs.pushWhole(x, 0, 5);
        Runs.pushWhole(x, 0, -1);
        CHECK.locals(x, 0, EpochReclaim.KIND_PUSH, 1, 0, -1, EpochReclaim.RES_OK);
        Runs.popWhole(x, 1);
        Runs.advances(x, 4);
        x.step(0);
        x.run(0, 64);
        CHECK.locals(x, 0, EpochReclaim.KIND_PUSH, 1, 0, -1, EpochReclaim.RES_OK);
        CHECK.locals(x, 1, EpochReclaim.KIND_POP, 1, 0, -1, EpochReclaim.RES_OK);
        x.pop(0);
        CHECK.locals(x, 0, EpochReclaim.KIND_POP, -1, -1, 0, EpochReclaim.RES_NONE);
    }

    private static void countersFollowTheState() {
        for (int seed = 1; seed <= 30; seed++) {
            Runs.Dice dice = new Runs.Dice(seed);
            EpochReclaim x = new EpochReclaim(8, 3, 1 + seed % 3);
            int epoch = 0;
            for (int call = 0; call < 1000; call++) {
                String next = dice.call(x, 3);
                int answer = Runs.perform(x, next);
                epoch += next.equals("tryAdvance") ? answer : 0;
                int free = 0;
                for (int c = 0; c < 8; c++) {
                    free += x.cell(c, EpochReclaim.CELL_STATE) == EpochReclaim.STATE_FREE ? 1 : 0;
                }
                CHECK.same("seed " + seed + ": free cells", x.counter(EpochReclaim.C_FREE_CELLS), free);
                CHECK.same("seed " + seed + ": epoch", x.counter(EpochReclaim.C_EPOCH), epoch);
            }
        }
    }
}
