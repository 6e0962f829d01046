import java.util.List;

/** Promise 4: step, and the steps that both kinds of operation have or that only a push has. */
public final class Promise04StepTest {
    private static final Check CHECK = new Check("promise 4");
    private static final int PIN = EpochReclaim.PH_PIN;
    private static final int ALLOC = EpochReclaim.PH_ALLOC;
    private static final int READ_TOP = EpochReclaim.PH_READ_TOP;
    private static final int LINK = EpochReclaim.PH_LINK;
    private static final int READ_CELL = EpochReclaim.PH_READ_CELL;
    private static final int CAS = EpochReclaim.PH_CAS;
    private static final int UNPIN = EpochReclaim.PH_UNPIN;
    private static final int IDLE = EpochReclaim.PH_IDLE;
    private static final int PUSH = EpochReclaim.KIND_PUSH;
    private static final int POP = EpochReclaim.KIND_POP;

    public static void main(String[] args) {
        CHECK.holds("`step(t)` is refused, answering `PH_IDLE` and changing nothing, if t is not in `0..threads-1`",
            Promise04StepTest::refusedForTheThread);
        CHECK.holds("or `phase(t) == PH_IDLE`.", Promise04StepTest::refusedWhenIdle);
        CHECK.holds("answers the code of the phase that was executed (not the next one).",
            Promise04StepTest::answersTheExecutedPhase);
        CHECK.holds("Only thread t, the cells, top, the limbo lists and the counters named below are affected",
            Promise04StepTest::onlyWhatThePhaseNames);
        CHECK.holds("no other thread changes, and E never changes in a step.",
            Promise04StepTest::otherThreadsAndEpochStay);
        CHECK.holds("PUSH: PIN, ALLOC, READ_TOP, LINK, CAS, UNPIN", () -> sequence(true));
        CHECK.holds("POP: PIN, READ_TOP, READ_CELL, CAS, RETIRE, UNPIN", () -> sequence(false));
        CHECK.holds("a failed CAS goes back to READ_TOP; an ALLOC that finds no FREE cell goes to UNPIN.",
            Promise04StepTest::otherWaysOfPush);
        CHECK.holds("a failed CAS goes back to READ_TOP; a READ_TOP that finds top NIL goes to UNPIN.",
            Promise04StepTest::otherWaysOfPop);
        CHECK.holds("`PH_PIN`: pinned = true; announced epoch = E. Next `PH_ALLOC` for a push, `PH_READ_TOP` for a "
            + "pop.", Promise04StepTest::pin);
        CHECK.holds("if no cell is FREE, result = `RES_FULL` and next is `PH_UNPIN` (mine stays NIL).",
            Promise04StepTest::allocWithoutFreeCell);
        CHECK.holds("if no cell is FREE [for some are RETIRED and some in another thread's hands]",
            Promise04StepTest::allocWithRetiredCells);
        CHECK.holds("Otherwise, with c the lowest FREE cell: c becomes LIVE, its value = the local value, its next = "
            + "NIL; mine = c; `C_FREE_CELLS` falls by 1; next `PH_READ_TOP`.", Promise04StepTest::alloc);
        CHECK.holds("push: seen = top; next `PH_LINK`.", Promise04StepTest::readTopOfPush);
        CHECK.holds("Pop: mine = top; if top is NIL then result = `RES_EMPTY` and value = 0, next `PH_UNPIN`",
            Promise04StepTest::readTopOfNothing);
        CHECK.holds("otherwise next `PH_READ_CELL`.", Promise04StepTest::readTopOfPop);
        CHECK.holds("access cell mine (see Access, including the trap on a FREE cell); its next = seen. Next "
            + "`PH_CAS`.", Promise04StepTest::link);
        CHECK.holds("access cell mine (trap rules as above); seen = its next; value = its value. Next `PH_CAS`.",
            Promise04StepTest::readCell);
        CHECK.holds("only the numbers are compared, nothing else about the cells.",
            Promise04StepTest::casComparesNumbersOnly);
        CHECK.holds("Push: if top == seen then top = mine, result = `RES_OK`, next `PH_UNPIN`; otherwise next "
            + "`PH_READ_TOP`.", Promise04StepTest::casOfPush);
        CHECK.holds("Pop: if top == mine then top = seen, result = `RES_OK`, next `PH_RETIRE`; otherwise next "
            + "`PH_READ_TOP`.", Promise04StepTest::casOfPop);
        CHECK.holds("`PH_UNPIN`: pinned = false; lastResult = result; lastValue = value; phase becomes `PH_IDLE`. The "
            + "locals keep their values.", Promise04StepTest::unpin);
        CHECK.holds("No step changes a cell's state except ALLOC (FREE to LIVE) and RETIRE (LIVE to RETIRED).",
            Promise04StepTest::statesChangeOnlyInTwoSteps);
        CHECK.holds("A trapping access leaves the state FREE.", Promise04StepTest::trappingAccessLeavesFree);
        CHECK.end();
    }

    private static void refusedForTheThread() {
        for (int threads = 2; threads <= 4; threads++) {
            EpochReclaim x = new EpochReclaim(8, threads, 3);
            Runs.pushWhole(x, 0, 5);
            for (int t = 0; t < threads; t++) {
                x.push(t, 6);
                x.run(t, 1 + t);
            }
            for (int t : Edges.outside(0, threads - 1)) {
                CHECK.refused(x, "step " + t, IDLE);
            }
            CHECK.same("step(threads - 1)", x.step(threads - 1) != IDLE, true);
            CHECK.same("step(0)", x.step(0) != IDLE, true);
        }
    }

    private static void refusedWhenIdle() {
        EpochReclaim x = new EpochReclaim(8, 3, 3);
        CHECK.refused(x, "step 0", IDLE);
        Runs.pushWhole(x, 0, 5);
        CHECK.refused(x, "step 0", IDLE);
        Runs.popWhole(x, 0);
        CHECK.refused(x, "step 0", IDLE);
        Runs.popWhole(x, 1);
        CHECK.refused(x, "step 1", IDLE);
        x.push(2, 6);
        x.run(2, 4);
        CHECK.refused(x, "step 0", IDLE);
        CHECK.refused(x, "step 1", IDLE);
        CHECK.same("step(2)", x.step(2), CAS);
    }

    private static void answersTheExecutedPhase() {
        for (int seed = 1; seed <= 20; seed++) {
            Runs.Dice dice = new Runs.Dice(seed);
            EpochReclaim x = new EpochReclaim(8, 3, 1 + seed % 3);
            for (int i = 0; i < 500; i++) {
                String call = dice.call(x, 3);
                int t = call.startsWith("step") ? Integer.parseInt(call.substring(5)) : -1;
                int phase = x.phase(t);
                int answer = Runs.perform(x, call);
                if (t >= 0) {
                    CHECK.same("seed " + seed + ": " + call, answer, phase);
                    CHECK.same("seed " + seed + ": it went on", x.phase(t) != phase, true);
                }
            }
        }
    }

    private static void otherThreadsAndEpochStay() {
        for (Situations.Situation situation : Situations.all()) {
            for (int t = 0; t < situation.threads; t++) {
                EpochReclaim x = situation.make();
                for (int i = 0; i < 7 && x.phase(t) != IDLE; i++) {
                    List<String> before = Check.state(x);
                    x.step(t);
                    CHECK.sameStateBut(situation.name + ", step(" + t + ")", Check.state(x), before, "phase(" + t,
                        "announced(" + t, "lastResult(" + t, "lastValue(" + t, "local(" + t, "top", "cell", "limbo",
                        "counter(0", "counter(2", "counter(3", "counter(5", "counter(6");
                }
            }
        }
    }

    private static void onlyWhatThePhaseNames() {
        int[] met = new int[9];
        for (int seed = 1; seed <= 60; seed++) {
            Runs.Dice dice = new Runs.Dice(seed);
            EpochReclaim x = seed % 2 == 0 ? Runs.twoCellLoop() : new EpochReclaim(8, 3, 1 + seed % 3);
            for (int i = 0; i < 300; i++) {
                String call = dice.call(x, 3);
                List<String> before = Check.state(x);
                int t = call.startsWith("step") ? Integer.parseInt(call.substring(5)) : -1;
                int mineBefore = x.local(t, EpochReclaim.L_MINE);
                int listBefore = Math.floorMod(x.announced(t), 3);
                int phase = Runs.perform(x, call);
                if (t >= 0) {
                    met[phase]++;
                    int c = phase == ALLOC ? x.local(t, EpochReclaim.L_MINE) : mineBefore;
                    CHECK.sameStateBut("seed " + seed + ": " + call + " in phase " + phase, Check.state(x), before,
                        named(phase, x.local(t, EpochReclaim.L_KIND), t, c, listBefore));
                }
            }
        }
        for (int phase = PIN; phase <= UNPIN; phase++) {
            CHECK.same("phase " + phase + " was met", met[phase] > 20, true);
        }
    }

    /** The rows of {@link Check#state} that the step may change, with c the cell and k the list that it names. */
    private static String[] named(int phase, int kind, int t, int c, int k) {
        String thread = "phase(" + t;
        String mine = "local(" + t + ", " + EpochReclaim.L_MINE;
        String seen = "local(" + t + ", " + EpochReclaim.L_SEEN;
        String value = "local(" + t + ", " + EpochReclaim.L_VALUE;
        String result = "local(" + t + ", " + EpochReclaim.L_RESULT;
        String accessTraps = "counter(" + EpochReclaim.C_ACCESS_TRAPS;
        String lastTrap = "counter(" + EpochReclaim.C_LAST_TRAP_CELL;
        switch (phase) {
            case EpochReclaim.PH_PIN:
                return new String[] {thread, "announced(" + t};
            case EpochReclaim.PH_ALLOC:
                return new String[] {thread, mine, result, "cell(" + c + ",", "counter(" + EpochReclaim.C_FREE_CELLS};
            case EpochReclaim.PH_READ_TOP:
                return kind == PUSH ? new String[] {thread, seen} : new String[] {thread, mine, value, result};
            case EpochReclaim.PH_LINK:
                return new String[] {thread, "cell(" + c + ", " + EpochReclaim.CELL_NEXT, accessTraps, lastTrap};
            case EpochReclaim.PH_READ_CELL:
                return new String[] {thread, seen, value, accessTraps, lastTrap};
            case EpochReclaim.PH_CAS:
                return new String[] {thread, result, "top"};
            case EpochReclaim.PH_RETIRE:
                return new String[] {thread, "cell(" + c + ", " + EpochReclaim.CELL_STATE, "limboSize(" + k,
                    "limboCell(" + k, "counter(" + EpochReclaim.C_DROPPED, "counter(" + EpochReclaim.C_RETIRES};
            default:
                return new String[] {thread, "announced(" + t, "lastResult(" + t, "lastValue(" + t};
        }
    }

    private static void sequence(boolean pushing) {
        EpochReclaim x = new EpochReclaim(8, 2, 3);
        Runs.pushWhole(x, 1, 5);
        Runs.start(x, 0, pushing, 7);
        int[] phases = Runs.phases(pushing);
        for (int i = 0; i < phases.length; i++) {
            CHECK.step(x, 0, phases[i], i + 1 < phases.length ? phases[i + 1] : IDLE);
        }
    }

    private static void otherWaysOfPush() {
        EpochReclaim x = new EpochReclaim(8, 2, 3);
        x.push(0, 5);
        Runs.steps(x, 0, 4);
        Runs.pushWhole(x, 1, 7);
        CHECK.step(x, 0, CAS, READ_TOP);
        CHECK.step(x, 0, READ_TOP, LINK);
        CHECK.step(x, 0, LINK, CAS);
        Runs.pushWhole(x, 1, 8);
        CHECK.step(x, 0, CAS, READ_TOP);

        EpochReclaim full = Runs.fullHeap(8, 2, 3, 0);
        full.push(0, 5);
        CHECK.step(full, 0, PIN, ALLOC);
        CHECK.step(full, 0, ALLOC, UNPIN);
        CHECK.step(full, 0, UNPIN, IDLE);
    }

    private static void otherWaysOfPop() {
        EpochReclaim x = new EpochReclaim(8, 2, 3);
        Runs.pushWhole(x, 0, 5);
        x.pop(0);
        Runs.steps(x, 0, 3);
        Runs.pushWhole(x, 1, 7);
        CHECK.step(x, 0, CAS, READ_TOP);
        CHECK.step(x, 0, READ_TOP, READ_CELL);
        CHECK.step(x, 0, READ_CELL, CAS);
        Runs.popWhole(x, 1);
        Runs.popWhole(x, 1);
        CHECK.step(x, 0, CAS, READ_TOP);
        CHECK.step(x, 0, READ_TOP, UNPIN);
        CHECK.step(x, 0, UNPIN, IDLE);
    }

    private static void pin() {
        for (int e = 0; e < 5; e++) {
            EpochReclaim x = new EpochReclaim(8, 2, 3);
            Runs.advances(x, e);
            x.push(0, 5);
            CHECK.stepChanging(x, 0, PIN, ALLOC, "announced(0");
            CHECK.same("announced(0)", x.announced(0), e);
            x.pop(1);
            CHECK.stepChanging(x, 1, PIN, READ_TOP, "announced(1");
            CHECK.same("announced(1)", x.announced(1), e);
        }
    }

    private static void allocWithoutFreeCell() {
        for (int cells : new int[] {8, 9, 31, 32}) {
            EpochReclaim x = Runs.fullHeap(cells, 2, 3, 100);
            CHECK.same("free cells", x.counter(EpochReclaim.C_FREE_CELLS), 0);
            x.push(1, 77);
            x.step(1);
            CHECK.stepChanging(x, 1, ALLOC, UNPIN, "local(1, 4");
            CHECK.locals(x, 1, PUSH, EpochReclaim.NIL, EpochReclaim.NIL, 77, EpochReclaim.RES_FULL);
            CHECK.step(x, 1, UNPIN, IDLE);
            CHECK.same("lastResult(1)", x.lastResult(1), EpochReclaim.RES_FULL);
            CHECK.same("lastValue(1)", x.lastValue(1), 77);
        }
    }

    /** Six cells on the stack, one waiting in limbo, one allocated but not linked yet. */
    private static void allocWithRetiredCells() {
        EpochReclaim x = new EpochReclaim(8, 3, 3);
        for (int i = 0; i < 7; i++) {
            Runs.pushWhole(x, 0, i);
        }
        Runs.popWhole(x, 0);
        x.push(2, 50);
        Runs.steps(x, 2, 2);
        x.push(1, 77);
        x.step(1);
        CHECK.stepChanging(x, 1, ALLOC, UNPIN, "local(1, 4");
        CHECK.locals(x, 1, PUSH, EpochReclaim.NIL, EpochReclaim.NIL, 77, EpochReclaim.RES_FULL);
        x.run(1, 64);
        x.run(2, 64);
        Runs.advances(x, 3);
        Runs.pushWhole(x, 1, 78);
        CHECK.same("lastResult(1) once the cell is freed", x.lastResult(1), EpochReclaim.RES_OK);
        CHECK.same("mine", x.local(1, EpochReclaim.L_MINE), 6);
    }

    private static void alloc() {
        for (int v : Edges.VALUES) {
            EpochReclaim x = new EpochReclaim(8, 2, 3);
            x.push(0, v);
            x.step(0);
            CHECK.stepChanging(x, 0, ALLOC, READ_TOP, "local(0, 1", "cell(0,", "counter(5");
            CHECK.cell(x, 0, EpochReclaim.STATE_LIVE, v, EpochReclaim.NIL);
            CHECK.locals(x, 0, PUSH, 0, EpochReclaim.NIL, v, EpochReclaim.RES_NONE);
            CHECK.same("free cells", x.counter(EpochReclaim.C_FREE_CELLS), 7);
        }
        allocOfTheLastFreeCell();
        allocOfAUsedCell();
    }

    private static void allocOfTheLastFreeCell() {
        for (int cells : new int[] {8, 32}) {
            EpochReclaim x = new EpochReclaim(cells, 2, 3);
            for (int i = 1; i < cells; i++) {
                Runs.pushWhole(x, 0, i);
            }
            x.push(1, 9);
            x.step(1);
            int last = cells - 1;
            CHECK.stepChanging(x, 1, ALLOC, READ_TOP, "local(1, 1", "cell(" + last + ",", "counter(5");
            CHECK.cell(x, last, EpochReclaim.STATE_LIVE, 9, EpochReclaim.NIL);
            CHECK.same("free cells", x.counter(EpochReclaim.C_FREE_CELLS), 0);
        }
    }

    /** The cells below are LIVE and above are FREE, and the cell itself still bears an old value and next. */
    private static void allocOfAUsedCell() {
        EpochReclaim x = new EpochReclaim(8, 2, 3);
        for (int v = 0; v < 4; v++) {
            Runs.pushWhole(x, 0, v);
        }
        Runs.popsWhole(x, 0, 3);
        Runs.advances(x, 3);
        CHECK.cell(x, 1, EpochReclaim.STATE_FREE, 1, 0);
        x.push(0, 60);
        x.step(0);
        CHECK.stepChanging(x, 0, ALLOC, READ_TOP, "local(0, 1", "cell(1,", "counter(5");
        CHECK.cell(x, 1, EpochReclaim.STATE_LIVE, 60, EpochReclaim.NIL);
        CHECK.same("mine", x.local(0, EpochReclaim.L_MINE), 1);
    }

    private static void readTopOfPush() {
        EpochReclaim x = new EpochReclaim(32, 2, 3);
        for (int top = -1; top < 31; top++) {
            x.push(0, 5);
            Runs.steps(x, 0, 2);
            CHECK.stepChanging(x, 0, READ_TOP, LINK, "local(0, 2");
            CHECK.locals(x, 0, PUSH, top + 1, top, 5, EpochReclaim.RES_NONE);
            x.run(0, 64);
        }
    }

    /** On a stack that was always empty, and on one emptied after a first try had read a value. */
    private static void readTopOfNothing() {
        EpochReclaim x = new EpochReclaim(8, 2, 3);
        x.pop(0);
        x.step(0);
        CHECK.stepChanging(x, 0, READ_TOP, UNPIN, "local(0, 4");
        CHECK.locals(x, 0, POP, EpochReclaim.NIL, EpochReclaim.NIL, 0, EpochReclaim.RES_EMPTY);

        EpochReclaim y = new EpochReclaim(8, 2, 3);
        Runs.pushWhole(y, 0, 5);
        Runs.pushWhole(y, 0, 7);
        y.pop(0);
        Runs.steps(y, 0, 3);
        CHECK.locals(y, 0, POP, 1, 0, 7, EpochReclaim.RES_NONE);
        Runs.popsWhole(y, 1, 2);
        y.step(0);
        CHECK.stepChanging(y, 0, READ_TOP, UNPIN, "local(0, 1", "local(0, 3", "local(0, 4");
        CHECK.locals(y, 0, POP, EpochReclaim.NIL, 0, 0, EpochReclaim.RES_EMPTY);
    }

    private static void readTopOfPop() {
        EpochReclaim x = Runs.fullHeap(32, 2, 3, 0);
        for (int top = 31; top >= 0; top--) {
            x.pop(1);
            x.step(1);
            CHECK.stepChanging(x, 1, READ_TOP, READ_CELL, "local(1, 1");
            CHECK.locals(x, 1, POP, top, EpochReclaim.NIL, 0, EpochReclaim.RES_NONE);
            x.run(1, 64);
        }
    }

    private static void link() {
        EpochReclaim first = new EpochReclaim(8, 2, 3);
        first.push(0, 5);
        Runs.steps(first, 0, 3);
        CHECK.stepChanging(first, 0, LINK, CAS);
        CHECK.cell(first, 0, EpochReclaim.STATE_LIVE, 5, EpochReclaim.NIL);

        EpochReclaim second = new EpochReclaim(8, 2, 3);
        Runs.pushWhole(second, 0, 5);
        second.push(0, 6);
        Runs.steps(second, 0, 3);
        CHECK.stepChanging(second, 0, LINK, CAS, "cell(1, 2");
        CHECK.cell(second, 1, EpochReclaim.STATE_LIVE, 6, 0);

        // Thread 0's own cell has been popped by another thread: it is RETIRED, and FREE after the advance.
        EpochReclaim retired = Runs.topStolenFromPush();
        Runs.popWhole(retired, 2);
        Runs.pushWhole(retired, 2, 50);
        retired.step(0);
        CHECK.stepChanging(retired, 0, LINK, CAS, "cell(0, 2");
        CHECK.cell(retired, 0, EpochReclaim.STATE_RETIRED, 30, 2);

        EpochReclaim free = Runs.topStolenFromPush();
        Runs.popWhole(free, 2);
        Runs.pushWhole(free, 2, 50);
        CHECK.same("tryAdvance", free.tryAdvance(), true);
        free.step(0);
        CHECK.traps(free, 0, 0, EpochReclaim.NIL);
        CHECK.stepChanging(free, 0, LINK, CAS, "cell(0, 2", "counter(0", "counter(2");
        CHECK.traps(free, 1, 0, 0);
        CHECK.cell(free, 0, EpochReclaim.STATE_FREE, 30, 2);
    }

    private static void readCell() {
        for (int v : Edges.VALUES) {
            EpochReclaim bottom = new EpochReclaim(8, 2, 3);
            Runs.pushWhole(bottom, 0, v);
            bottom.pop(1);
            Runs.steps(bottom, 1, 2);
            CHECK.stepChanging(bottom, 1, READ_CELL, CAS, "local(1, 3");
            CHECK.locals(bottom, 1, POP, 0, EpochReclaim.NIL, v, EpochReclaim.RES_NONE);
        }
        EpochReclaim live = stalePop();
        CHECK.stepChanging(live, 1, READ_CELL, CAS, "local(1, 2", "local(1, 3");
        CHECK.locals(live, 1, POP, 1, 0, 7, EpochReclaim.RES_NONE);

        EpochReclaim retired = stalePop();
        Runs.popWhole(retired, 0);
        CHECK.stepChanging(retired, 1, READ_CELL, CAS, "local(1, 2", "local(1, 3");
        CHECK.locals(retired, 1, POP, 1, 0, 7, EpochReclaim.RES_NONE);

        EpochReclaim free = stalePop();
        Runs.popWhole(free, 0);
        free.tryAdvance();
        CHECK.stepChanging(free, 1, READ_CELL, CAS, "local(1, 2", "local(1, 3", "counter(0", "counter(2");
        CHECK.locals(free, 1, POP, 1, 0, 7, EpochReclaim.RES_NONE);
        CHECK.traps(free, 1, 0, 1);
    }

    /** Gap 1: thread 1 is about to read cell 1, the top of two. */
    private static EpochReclaim stalePop() {
        EpochReclaim x = new EpochReclaim(8, 2, 1);
        Runs.pushWhole(x, 0, 5);
        Runs.pushWhole(x, 0, 7);
        x.pop(1);
        Runs.steps(x, 1, 2);
        return x;
    }

    /** Top holds the number again that was seen, but of a cell used anew: the CAS succeeds all the same. */
    private static void casComparesNumbersOnly() {
        EpochReclaim x = stalePop();
        x.step(1);
        Runs.popsWhole(x, 0, 2);
        x.tryAdvance();
        Runs.pushWhole(x, 0, 30);
        Runs.pushWhole(x, 0, 40);
        CHECK.same("top()", x.top(), 1);
        CHECK.cell(x, 1, EpochReclaim.STATE_LIVE, 40, 0);
        CHECK.step(x, 1, CAS, EpochReclaim.PH_RETIRE);
        CHECK.same("top()", x.top(), 0);
        CHECK.same("value", x.local(1, EpochReclaim.L_VALUE), 7);

        EpochReclaim y = Runs.fullHeap(8, 2, 1, 0);
        Runs.popsWhole(y, 0, 7);
        y.tryAdvance();
        Runs.pushWhole(y, 0, 20);
        y.push(1, 30);
        Runs.steps(y, 1, 4);
        CHECK.locals(y, 1, PUSH, 2, 1, 30, EpochReclaim.RES_NONE);
        Runs.popsWhole(y, 0, 2);
        y.tryAdvance();
        Runs.pushWhole(y, 0, 60);
        Runs.pushWhole(y, 0, 70);
        CHECK.same("top()", y.top(), 1);
        CHECK.cell(y, 1, EpochReclaim.STATE_LIVE, 70, 0);
        CHECK.step(y, 1, CAS, UNPIN);
        CHECK.same("top()", y.top(), 2);
    }

    private static void casOfPush() {
        EpochReclaim first = new EpochReclaim(8, 2, 3);
        first.push(0, 5);
        Runs.steps(first, 0, 4);
        CHECK.stepChanging(first, 0, CAS, UNPIN, "top()", "local(0, 4");
        CHECK.same("top()", first.top(), 0);
        CHECK.same("result", first.local(0, EpochReclaim.L_RESULT), EpochReclaim.RES_OK);

        EpochReclaim second = new EpochReclaim(8, 2, 3);
        Runs.pushWhole(second, 1, 4);
        second.push(0, 5);
        Runs.steps(second, 0, 4);
        CHECK.stepChanging(second, 0, CAS, UNPIN, "top()", "local(0, 4");
        CHECK.same("top()", second.top(), 1);

        EpochReclaim seenNil = new EpochReclaim(8, 2, 3);
        seenNil.push(0, 5);
        Runs.steps(seenNil, 0, 4);
        Runs.pushWhole(seenNil, 1, 6);
        CHECK.stepChanging(seenNil, 0, CAS, READ_TOP);

        EpochReclaim topNil = new EpochReclaim(8, 2, 3);
        Runs.pushWhole(topNil, 1, 4);
        topNil.push(0, 5);
        Runs.steps(topNil, 0, 4);
        Runs.popWhole(topNil, 1);
        CHECK.stepChanging(topNil, 0, CAS, READ_TOP);

        // The second try links to the new top.
        Runs.steps(seenNil, 0, 2);
        CHECK.cell(seenNil, 0, EpochReclaim.STATE_LIVE, 5, 1);
        CHECK.step(seenNil, 0, CAS, UNPIN);
        CHECK.same("top()", seenNil.top(), 0);
    }

    private static void casOfPop() {
        EpochReclaim last = new EpochReclaim(8, 2, 3);
        Runs.pushWhole(last, 1, 4);
        last.pop(0);
        Runs.steps(last, 0, 3);
        CHECK.stepChanging(last, 0, CAS, EpochReclaim.PH_RETIRE, "top()", "local(0, 4");
        CHECK.same("top()", last.top(), EpochReclaim.NIL);
        CHECK.same("result", last.local(0, EpochReclaim.L_RESULT), EpochReclaim.RES_OK);

        EpochReclaim upper = new EpochReclaim(8, 2, 3);
        Runs.pushWhole(upper, 1, 4);
        Runs.pushWhole(upper, 1, 5);
        upper.pop(0);
        Runs.steps(upper, 0, 3);
        CHECK.stepChanging(upper, 0, CAS, EpochReclaim.PH_RETIRE, "top()", "local(0, 4");
        CHECK.same("top()", upper.top(), 0);

        EpochReclaim pushedOver = new EpochReclaim(8, 2, 3);
        Runs.pushWhole(pushedOver, 1, 4);
        pushedOver.pop(0);
        Runs.steps(pushedOver, 0, 3);
        Runs.pushWhole(pushedOver, 1, 5);
        CHECK.stepChanging(pushedOver, 0, CAS, READ_TOP);

        EpochReclaim emptied = new EpochReclaim(8, 2, 3);
        Runs.pushWhole(emptied, 1, 4);
        emptied.pop(0);
        Runs.steps(emptied, 0, 3);
        Runs.popWhole(emptied, 1);
        CHECK.stepChanging(emptied, 0, CAS, READ_TOP);
    }

    private static void unpin() {
        EpochReclaim x = new EpochReclaim(8, 2, 3);
        x.pop(0);
        unpinOne(x, 0, 2, POP, -1, -1, 0, EpochReclaim.RES_EMPTY);
        for (int i = 0; i < 8; i++) {
            x.push(0, i - 1);
            unpinOne(x, 0, 5, PUSH, i, i - 1, i - 1, EpochReclaim.RES_OK);
        }
        x.push(1, -9);
        unpinOne(x, 1, 2, PUSH, -1, -1, -9, EpochReclaim.RES_FULL);
        x.pop(1);
        unpinOne(x, 1, 5, POP, 7, 6, 6, EpochReclaim.RES_OK);
    }

    private static void unpinOne(EpochReclaim x, int t, int before, int kind, int mine, int seen, int value,
            int result) {
        x.run(t, before);
        CHECK.stepChanging(x, t, UNPIN, IDLE, "announced(" + t, "lastResult(" + t, "lastValue(" + t);
        CHECK.same("announced(" + t + ")", x.announced(t), -1);
        CHECK.same("lastResult(" + t + ")", x.lastResult(t), result);
        CHECK.same("lastValue(" + t + ")", x.lastValue(t), value);
        CHECK.locals(x, t, kind, mine, seen, value, result);
    }

    /** With gap 1 the steps also meet FREE and RETIRED cells where they should not. */
    private static void statesChangeOnlyInTwoSteps() {
        for (int seed = 1; seed <= 60; seed++) {
            Runs.Dice dice = new Runs.Dice(seed);
            EpochReclaim x = seed % 2 == 0 ? Runs.twoCellLoop() : new EpochReclaim(8, 3, 1 + seed % 3);
            for (int i = 0; i < 500; i++) {
                String call = dice.call(x, 3);
                int[] before = states(x);
                int phase = Runs.perform(x, call);
                if (call.startsWith("step")) {
                    checkStateChange("seed " + seed + ", step " + phase, phase, before, states(x));
                }
            }
        }
    }

    private static int[] states(EpochReclaim x) {
        int[] states = new int[8];
        for (int c = 0; c < 8; c++) {
            states[c] = x.cell(c, EpochReclaim.CELL_STATE);
        }
        return states;
    }

    private static void checkStateChange(String after, int phase, int[] before, int[] now) {
        int changed = 0;
        for (int c = 0; c < 8; c++) {
            if (before[c] != now[c]) {
                changed++;
                boolean allocated = phase == ALLOC && before[c] == EpochReclaim.STATE_FREE
                    && now[c] == EpochReclaim.STATE_LIVE;
                boolean retired = phase == EpochReclaim.PH_RETIRE && before[c] == EpochReclaim.STATE_LIVE
                    && now[c] == EpochReclaim.STATE_RETIRED;
                CHECK.same(after + ": cell " + c + " went from " + before[c] + " to " + now[c], allocated || retired,
                    true);
            }
        }
        CHECK.same(after + ": at most one cell changes", changed <= 1, true);
    }

    private static void trappingAccessLeavesFree() {
        EpochReclaim read = stalePop();
        Runs.popWhole(read, 0);
        read.tryAdvance();
        int free = read.counter(EpochReclaim.C_FREE_CELLS);
        read.step(1);
        CHECK.traps(read, 1, 0, 1);
        CHECK.same("state", read.cell(1, EpochReclaim.CELL_STATE), EpochReclaim.STATE_FREE);
        CHECK.same("free cells", read.counter(EpochReclaim.C_FREE_CELLS), free);

        EpochReclaim linked = Runs.topStolenFromPush();
        Runs.popWhole(linked, 2);
        linked.tryAdvance();
        free = linked.counter(EpochReclaim.C_FREE_CELLS);
        Runs.steps(linked, 0, 2);
        CHECK.traps(linked, 1, 0, 0);
        CHECK.same("state", linked.cell(0, EpochReclaim.CELL_STATE), EpochReclaim.STATE_FREE);
        CHECK.same("free cells", linked.counter(EpochReclaim.C_FREE_CELLS), free);
    }
}
