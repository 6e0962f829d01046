import java.util.List;

/** What promises 2 and 3 ask alike of push and pop. */
final class StartChecks {
    private final Check check;
    private final boolean pushing;

    StartChecks(Check check, boolean pushing) {
        this.check = check;
        this.pushing = pushing;
    }

    private String call(int t, int v) {
        return pushing ? "push " + t + " " + v : "pop " + t;
    }

    private void accepted(EpochReclaim x, int t, int v) {
        check.same(call(t, v), Runs.perform(x, call(t, v)), 1);
    }

    /** Nothing that a step would do has been done. */
    void executesNoStep() {
        EpochReclaim x = new EpochReclaim(8, 2, 3);
        Runs.pushWhole(x, 0, 5);
        accepted(x, 1, 7);
        check.same("phase(1)", x.phase(1), EpochReclaim.PH_PIN);
        check.same("announced(1), before PIN", x.announced(1), -1);
        check.same("free cells", x.counter(EpochReclaim.C_FREE_CELLS), 7);
        check.same("top()", x.top(), 0);
        check.same("run(1, 64), with all its steps still to do", x.run(1, 64), 6);
    }

    void threadMustBeInRange() {
        for (int threads = 2; threads <= 4; threads++) {
            EpochReclaim x = new EpochReclaim(8, threads, 3);
            Runs.pushWhole(x, 0, 5);
            for (int t : Edges.outside(0, threads - 1)) {
                check.refused(x, call(t, 7), 0);
            }
            for (int t = 0; t < threads; t++) {
                accepted(x, t, 7);
            }
            for (int t : Edges.outside(0, threads - 1)) {
                check.refused(x, call(t, 7), 0);
            }
        }
    }

    /** In each phase of a push and of a pop it is refused, and right after UNPIN it is not. */
    void threadMustBeIdle() {
        for (boolean otherPushes : new boolean[] {true, false}) {
            EpochReclaim x = new EpochReclaim(8, 2, 3);
            Runs.pushWhole(x, 1, 5);
            Runs.start(x, 0, otherPushes, 6);
            for (int phase : Runs.phases(otherPushes)) {
                check.same("phase(0)", x.phase(0), phase);
                check.refused(x, call(0, 7), 0);
                x.step(0);
            }
            check.same("phase(0)", x.phase(0), EpochReclaim.PH_IDLE);
            accepted(x, 0, 7);
            check.refused(x, call(0, 7), 0);
        }
    }

    /** An operation that ends early, on an empty stack or a full heap, is not over before UNPIN either. */
    void threadMustBeIdleAfterEarlyEnd() {
        EpochReclaim empty = new EpochReclaim(8, 2, 3);
        empty.pop(0);
        empty.run(0, 2);
        check.refused(empty, call(0, 7), 0);
        empty.step(0);
        accepted(empty, 0, 7);

        EpochReclaim full = Runs.fullHeap(8, 2, 3, 0);
        full.push(0, 5);
        full.run(0, 2);
        check.refused(full, call(0, 7), 0);
        full.step(0);
        accepted(full, 0, 7);
    }

    /** Another thread's operation is no hindrance. */
    void otherThreadsMayBeBusy() {
        EpochReclaim x = new EpochReclaim(8, 4, 3);
        for (int t = 0; t < 4; t++) {
            accepted(x, t, 7);
            x.run(t, t);
        }
    }

    void threadGetsItsLocals() {
        for (int v : Edges.VALUES) {
            for (int t = 0; t < 3; t++) {
                EpochReclaim fresh = new EpochReclaim(8, 3, 3);
                accepted(fresh, t, v);
                checkLocals(fresh, t, v);

                EpochReclaim x = new EpochReclaim(8, 3, 3);
                Runs.pushWhole(x, t, 4);
                Runs.pushWhole(x, t, 9);
                accepted(x, t, v);
                checkLocals(x, t, v);

                EpochReclaim y = new EpochReclaim(8, 3, 3);
                Runs.pushWhole(y, t, 4);
                Runs.pushWhole(y, t, 9);
                Runs.popWhole(y, t);
                accepted(y, t, v);
                checkLocals(y, t, v);
            }
        }
    }

    private void checkLocals(EpochReclaim x, int t, int v) {
        check.locals(x, t, pushing ? EpochReclaim.KIND_PUSH : EpochReclaim.KIND_POP, EpochReclaim.NIL,
            EpochReclaim.NIL, pushing ? v : 0, EpochReclaim.RES_NONE);
        check.same("phase(" + t + ")", x.phase(t), EpochReclaim.PH_PIN);
    }

    void nothingElseChanges() {
        for (Situations.Situation situation : Situations.all()) {
            for (int t = 0; t < situation.threads; t++) {
                EpochReclaim x = situation.make();
                if (x.phase(t) == EpochReclaim.PH_IDLE) {
                    List<String> before = Check.state(x);
                    accepted(x, t, -3);
                    check.sameStateBut(situation.name + ", " + call(t, -3), Check.state(x), before, "local(" + t,
                        "phase(" + t);
                }
            }
        }
    }
}
