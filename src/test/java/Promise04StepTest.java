import java.util.List;

/** Promise 4: each step, on its ordinary way and on each of its others. */
public final class Promise04StepTest {
    private static final Check CHECK = new Check("promise 4");

    public static void main(String[] args) {
        checkRefused();
        checkPushStepByStep();
        checkPopStepByStep();
        checkFullHeap();
        checkEmptyStack();
        checkFailedPushCas();
        checkFailedPopCas();
        checkPopCasThenEmpty();
        checkCasComparesNumbersOnly();
        checkLowestFreeCell();
        checkReadCellTrap();
        checkLinkTrap();
        checkRetireStates();
        checkFullLimboList();
        checkRetireUsesAnnouncedEpoch();
        CHECK.end();
    }

    private static void step(EpochReclaim x, int t, int executed, int next) {
        CHECK.same("step(" + t + ")", x.step(t), executed);
        CHECK.same("phase(" + t + ") after step " + executed, x.phase(t), next);
    }

    private static void locals(EpochReclaim x, int t, int mine, int seen, int value, int result) {
        CHECK.same("mine of " + t, x.local(t, EpochReclaim.L_MINE), mine);
        CHECK.same("seen of " + t, x.local(t, EpochReclaim.L_SEEN), seen);
        CHECK.same("value of " + t, x.local(t, EpochReclaim.L_VALUE), value);
        CHECK.same("result of " + t, x.local(t, EpochReclaim.L_RESULT), result);
    }

    private static void cell(EpochReclaim x, int c, int state, int value, int next) {
        CHECK.same("state of cell " + c, x.cell(c, EpochReclaim.CELL_STATE), state);
        CHECK.same("value of cell " + c, x.cell(c, EpochReclaim.CELL_VALUE), value);
        CHECK.same("next of cell " + c, x.cell(c, EpochReclaim.CELL_NEXT), next);
    }

    private static void traps(EpochReclaim x, int accessTraps, int lastTrapCell) {
        CHECK.same("access traps", x.counter(EpochReclaim.C_ACCESS_TRAPS), accessTraps);
        CHECK.same("last trap cell", x.counter(EpochReclaim.C_LAST_TRAP_CELL), lastTrapCell);
    }

    private static void checkRefused() {
        EpochReclaim x = new EpochReclaim(8, 3, 3);
        Runs.pushWhole(x, 0, 5);
        x.push(1, 6);
        x.step(1);
        List<String> before = Check.state(x);
        for (int t : Check.FAR_INTS) {
            CHECK.same("step(" + t + ")", x.step(t), EpochReclaim.PH_IDLE);
        }
        CHECK.same("step(3) of three threads", x.step(3), EpochReclaim.PH_IDLE);
        CHECK.same("step(0) idle after a push", x.step(0), EpochReclaim.PH_IDLE);
        CHECK.same("step(2) idle from the start", x.step(2), EpochReclaim.PH_IDLE);
        CHECK.sameState("refused steps", Check.state(x), before);
    }

    private static void checkPushStepByStep() {
        EpochReclaim x = new EpochReclaim(8, 2, 3);
        Runs.pushWhole(x, 1, 5);
        Runs.advances(x, 2);
        x.push(0, -1);
        List<String> before = Check.state(x);
        step(x, 0, 1, 2);
        CHECK.same("announced(0)", x.announced(0), 2);
        CHECK.sameStateBut("PIN", Check.state(x), before, "phase(0", "announced(0");
        before = Check.state(x);
        step(x, 0, 2, 3);
        locals(x, 0, 1, -1, -1, 0);
        cell(x, 1, 1, -1, -1);
        CHECK.same("free cells", x.counter(EpochReclaim.C_FREE_CELLS), 6);
        CHECK.sameStateBut("ALLOC", Check.state(x), before, "phase(0", "local(0, 1", "cell(1,", "counter(5");
        before = Check.state(x);
        step(x, 0, 3, 4);
        locals(x, 0, 1, 0, -1, 0);
        CHECK.sameStateBut("READ_TOP", Check.state(x), before, "phase(0", "local(0, 2");
        before = Check.state(x);
        step(x, 0, 4, 6);
        cell(x, 1, 1, -1, 0);
        CHECK.sameStateBut("LINK", Check.state(x), before, "phase(0", "cell(1, 2");
        before = Check.state(x);
        step(x, 0, 6, 8);
        CHECK.same("top", x.top(), 1);
        locals(x, 0, 1, 0, -1, 1);
        CHECK.sameStateBut("CAS", Check.state(x), before, "phase(0", "top()", "local(0, 4");
        before = Check.state(x);
        step(x, 0, 8, 0);
        CHECK.same("announced(0)", x.announced(0), -1);
        CHECK.same("lastResult(0)", x.lastResult(0), 1);
        CHECK.same("lastValue(0)", x.lastValue(0), -1);
        CHECK.sameStateBut("UNPIN", Check.state(x), before, "phase(0", "announced(0", "lastResult(0", "lastValue(0");
        step(x, 0, 0, 0);
    }

    private static void checkPopStepByStep() {
        EpochReclaim x = new EpochReclaim(8, 2, 3);
        Runs.pushWhole(x, 1, 5);
        Runs.pushWhole(x, 1, 7);
        Runs.advances(x, 4);
        x.pop(0);
        List<String> before = Check.state(x);
        step(x, 0, 1, 3);
        CHECK.same("announced(0)", x.announced(0), 4);
        CHECK.sameStateBut("PIN", Check.state(x), before, "phase(0", "announced(0");
        before = Check.state(x);
        step(x, 0, 3, 5);
        locals(x, 0, 1, -1, 0, 0);
        CHECK.sameStateBut("READ_TOP", Check.state(x), before, "phase(0", "local(0, 1");
        before = Check.state(x);
        step(x, 0, 5, 6);
        locals(x, 0, 1, 0, 7, 0);
        CHECK.sameStateBut("READ_CELL", Check.state(x), before, "phase(0", "local(0, 2", "local(0, 3");
        before = Check.state(x);
        step(x, 0, 6, 7);
        CHECK.same("top", x.top(), 0);
        locals(x, 0, 1, 0, 7, 1);
        CHECK.sameStateBut("CAS", Check.state(x), before, "phase(0", "top()", "local(0, 4");
        before = Check.state(x);
        step(x, 0, 7, 8);
        CHECK.same("limboSize(1)", x.limboSize(1), 1);
        CHECK.same("limboCell(1, 0)", x.limboCell(1, 0), 1);
        cell(x, 1, 2, 7, 0);
        CHECK.same("retires", x.counter(EpochReclaim.C_RETIRES), 1);
        CHECK.sameStateBut("RETIRE", Check.state(x), before, "phase(0", "limboSize(1", "limboCell(1, 0", "cell(1, 0",
            "counter(6");
        before = Check.state(x);
        step(x, 0, 8, 0);
        CHECK.same("announced(0)", x.announced(0), -1);
        CHECK.same("lastResult(0)", x.lastResult(0), 1);
        CHECK.same("lastValue(0)", x.lastValue(0), 7);
        CHECK.sameStateBut("UNPIN", Check.state(x), before, "phase(0", "announced(0", "lastResult(0", "lastValue(0");
    }

    private static void checkFullHeap() {
        for (int cells = 8; cells <= 32; cells += 12) {
            EpochReclaim x = new EpochReclaim(cells, 2, 3);
            for (int c = 0; c < cells; c++) {
                Runs.pushWhole(x, 0, 100 + c);
                CHECK.same("top of " + cells, x.top(), c);
            }
            CHECK.same("free cells", x.counter(EpochReclaim.C_FREE_CELLS), 0);
            x.push(1, 77);
            x.step(1);
            List<String> before = Check.state(x);
            step(x, 1, 2, 8);
            locals(x, 1, -1, -1, 77, 3);
            CHECK.sameStateBut("ALLOC without a cell", Check.state(x), before, "phase(1", "local(1, 4");
            step(x, 1, 8, 0);
            CHECK.same("lastResult(1)", x.lastResult(1), EpochReclaim.RES_FULL);
            CHECK.same("lastValue(1)", x.lastValue(1), 77);
        }
    }

    private static void checkEmptyStack() {
        EpochReclaim x = new EpochReclaim(8, 2, 3);
        x.pop(0);
        step(x, 0, 1, 3);
        List<String> before = Check.state(x);
        step(x, 0, 3, 8);
        locals(x, 0, -1, -1, 0, 2);
        CHECK.sameStateBut("READ_TOP of nothing", Check.state(x), before, "phase(0", "local(0, 4");
        step(x, 0, 8, 0);
        CHECK.same("lastResult(0)", x.lastResult(0), EpochReclaim.RES_EMPTY);
        CHECK.same("lastValue(0)", x.lastValue(0), 0);
    }

    private static void checkFailedPushCas() {
        EpochReclaim x = new EpochReclaim(8, 2, 3);
        x.push(0, 5);
        Runs.steps(x, 0, 4);
        Runs.pushWhole(x, 1, 7);
        List<String> before = Check.state(x);
        step(x, 0, 6, 3);
        CHECK.sameStateBut("failed CAS", Check.state(x), before, "phase(0");
        step(x, 0, 3, 4);
        locals(x, 0, 0, 1, 5, 0);
        step(x, 0, 4, 6);
        cell(x, 0, 1, 5, 1);
        step(x, 0, 6, 8);
        CHECK.same("top", x.top(), 0);
    }

    private static void checkFailedPopCas() {
        EpochReclaim x = new EpochReclaim(8, 2, 3);
        Runs.pushWhole(x, 0, 5);
        x.pop(0);
        Runs.steps(x, 0, 3);
        Runs.pushWhole(x, 1, 7);
        List<String> before = Check.state(x);
        step(x, 0, 6, 3);
        locals(x, 0, 0, -1, 5, 0);
        CHECK.sameStateBut("failed CAS", Check.state(x), before, "phase(0");
        step(x, 0, 3, 5);
        locals(x, 0, 1, -1, 5, 0);
        step(x, 0, 5, 6);
        locals(x, 0, 1, 0, 7, 0);
        step(x, 0, 6, 7);
        CHECK.same("top", x.top(), 0);
    }

    /** The second READ_TOP finds nothing: value falls back to 0, seen keeps what the first try read. */
    private static void checkPopCasThenEmpty() {
        EpochReclaim x = new EpochReclaim(8, 2, 3);
        Runs.pushWhole(x, 0, 5);
        Runs.pushWhole(x, 0, 7);
        x.pop(0);
        Runs.steps(x, 0, 3);
        locals(x, 0, 1, 0, 7, 0);
        Runs.popWhole(x, 1);
        Runs.popWhole(x, 1);
        step(x, 0, 6, 3);
        step(x, 0, 3, 8);
        locals(x, 0, -1, 0, 0, 2);
        step(x, 0, 8, 0);
        CHECK.same("lastValue(0)", x.lastValue(0), 0);
        CHECK.same("retires", x.counter(EpochReclaim.C_RETIRES), 2);
    }

    /** Top holds the number again that was seen, but of a cell used anew: the CAS must succeed all the same. */
    private static void checkCasComparesNumbersOnly() {
        EpochReclaim x = Runs.topStolenFromPush();
        CHECK.same("top after the late CAS", x.top(), 0);
        CHECK.same("lastResult(1)", x.lastResult(1), EpochReclaim.RES_OK);
        CHECK.same("lastValue(1)", x.lastValue(1), 20);
        cell(x, 0, 1, 30, -1);
        cell(x, 1, 2, 40, -1);
        CHECK.same("limboCell(0, 0)", x.limboCell(0, 0), 1);
        step(x, 0, 3, 4);
        locals(x, 0, 0, 0, 30, 0);
        step(x, 0, 4, 6);
        cell(x, 0, 1, 30, 0);
        step(x, 0, 6, 8);
        CHECK.same("top after the self link", x.top(), 0);
        traps(x, 0, -1);
    }

    private static void checkLowestFreeCell() {
        EpochReclaim x = new EpochReclaim(8, 2, 3);
        for (int v = 0; v < 4; v++) {
            Runs.pushWhole(x, 0, v);
        }
        for (int i = 0; i < 3; i++) {
            Runs.popWhole(x, 0);
        }
        Runs.pushWhole(x, 0, 50);
        CHECK.same("top while 1 to 3 wait", x.top(), 4);
        Runs.advances(x, 3);
        Runs.pushWhole(x, 0, 60);
        CHECK.same("top after the freeing", x.top(), 1);
        cell(x, 1, 1, 60, 4);
        x.push(0, 70);
        Runs.steps(x, 0, 2);
        cell(x, 2, 1, 70, -1);
    }

    private static void checkReadCellTrap() {
        EpochReclaim x = new EpochReclaim(8, 2, 1);
        Runs.pushWhole(x, 0, 5);
        Runs.pushWhole(x, 0, 7);
        x.pop(1);
        Runs.steps(x, 1, 2);
        Runs.popWhole(x, 0);
        x.tryAdvance();
        traps(x, 0, -1);
        List<String> before = Check.state(x);
        step(x, 1, 5, 6);
        traps(x, 1, 1);
        locals(x, 1, 1, 0, 7, 0);
        cell(x, 1, 0, 7, 0);
        CHECK.sameStateBut("trap in READ_CELL", Check.state(x), before, "phase(1", "local(1, 2", "local(1, 3",
            "counter(0", "counter(2");
    }

    private static void checkLinkTrap() {
        EpochReclaim x = Runs.topStolenFromPush();
        Runs.popWhole(x, 2);
        CHECK.same("lastValue(2)", x.lastValue(2), 30);
        Runs.pushWhole(x, 2, 50);
        CHECK.same("top", x.top(), 2);
        CHECK.same("tryAdvance", x.tryAdvance(), true);
        cell(x, 0, 0, 30, -1);
        step(x, 0, 3, 4);
        traps(x, 0, -1);
        List<String> before = Check.state(x);
        step(x, 0, 4, 6);
        traps(x, 1, 0);
        cell(x, 0, 0, 30, 2);
        CHECK.sameStateBut("trap in LINK", Check.state(x), before, "phase(0", "cell(0, 2", "counter(0", "counter(2");
        step(x, 0, 6, 8);
        CHECK.same("top", x.top(), 0);
        cell(x, 0, 0, 30, 2);
    }

    /** RETIRE makes a LIVE cell RETIRED, leaves a RETIRED and a FREE one, never traps, and always lists the cell. */
    private static void checkRetireStates() {
        EpochReclaim x = Runs.selfLoop();
        Runs.popWhole(x, 0);
        cell(x, 0, 2, 30, 0);
        Runs.popWhole(x, 0);
        cell(x, 0, 2, 30, 0);
        CHECK.same("limboSize(1)", x.limboSize(1), 2);
        x.tryAdvance();
        cell(x, 0, 0, 30, 0);
        x.pop(1);
        Runs.steps(x, 1, 4);
        traps(x, 1, 0);
        int retires = x.counter(EpochReclaim.C_RETIRES);
        int free = x.counter(EpochReclaim.C_FREE_CELLS);
        step(x, 1, 7, 8);
        traps(x, 1, 0);
        cell(x, 0, 0, 30, 0);
        CHECK.same("limboSize(2)", x.limboSize(2), 1);
        CHECK.same("limboCell(2, 0)", x.limboCell(2, 0), 0);
        CHECK.same("retires", x.counter(EpochReclaim.C_RETIRES), retires + 1);
        CHECK.same("free cells", x.counter(EpochReclaim.C_FREE_CELLS), free);
    }

    private static void checkFullLimboList() {
        EpochReclaim x = Runs.selfLoop();
        int before = x.counter(EpochReclaim.C_RETIRES);
        for (int n = 1; n <= 32; n++) {
            Runs.popWhole(x, 0);
            CHECK.same("limboSize(1) after pop " + n, x.limboSize(1), n);
            CHECK.same("dropped after pop " + n, x.counter(EpochReclaim.C_DROPPED), 0);
        }
        for (int n = 1; n <= 3; n++) {
            x.pop(2);
            Runs.steps(x, 2, 4);
            List<String> full = Check.state(x);
            step(x, 2, 7, 8);
            CHECK.same("dropped", x.counter(EpochReclaim.C_DROPPED), n);
            CHECK.same("retires", x.counter(EpochReclaim.C_RETIRES), before + 32 + n);
            CHECK.sameStateBut("RETIRE into a full list", Check.state(x), full, "phase(2", "counter(3", "counter(6");
            step(x, 2, 8, 0);
        }
        CHECK.same("limboSize(1)", x.limboSize(1), 32);
        checkDroppedLiveCell(x);
    }

    /** A LIVE cell whose retire is dropped still becomes RETIRED. */
    private static void checkDroppedLiveCell(EpochReclaim x) {
        int dropped = x.counter(EpochReclaim.C_DROPPED);
        Runs.pushWhole(x, 0, 99);
        int c = x.top();
        cell(x, c, 1, 99, 0);
        Runs.popWhole(x, 0);
        cell(x, c, 2, 99, 0);
        CHECK.same("dropped", x.counter(EpochReclaim.C_DROPPED), dropped + 1);
    }

    /** The thread pinned in epoch 1 retires in epoch 2: the cell goes to list 1. */
    private static void checkRetireUsesAnnouncedEpoch() {
        EpochReclaim x = new EpochReclaim(8, 2, 3);
        Runs.pushWhole(x, 0, 5);
        x.tryAdvance();
        x.pop(0);
        x.step(0);
        CHECK.same("tryAdvance", x.tryAdvance(), true);
        x.run(0, 64);
        CHECK.same("limboSize(0)", x.limboSize(0), 0);
        CHECK.same("limboSize(1)", x.limboSize(1), 1);
        CHECK.same("limboSize(2)", x.limboSize(2), 0);
        CHECK.same("epoch", x.counter(EpochReclaim.C_EPOCH), 2);
    }
}
