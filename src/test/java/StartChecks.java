import java.util.List;

/** What promises 2 and 3 ask alike of push and pop. */
final class StartChecks {
    private final Check check;
    private final boolean pushing;

    StartChecks(Check check, boolean pushing) {
        this.check = check;
        this.pushing = pushing;
    }

    void checkAll() {
        for (int threads = 2; threads <= 4; threads++) {
            checkThreadsOutOfRange(threads);
        }
        for (int phase = EpochReclaim.PH_PIN; phase <= EpochReclaim.PH_UNPIN; phase++) {
            checkRefusedInPhase(phase, true);
            checkRefusedInPhase(phase, false);
        }
        checkFirstStart();
        checkStartAfterAnother();
    }

    private boolean start(EpochReclaim x, int t, int v) {
        return pushing ? x.push(t, v) : x.pop(t);
    }

    private String call(int t, int v) {
        return pushing ? "push(" + t + ", " + v + ")" : "pop(" + t + ")";
    }

    private void checkThreadsOutOfRange(int threads) {
        EpochReclaim x = new EpochReclaim(8, threads, 3);
        Runs.pushWhole(x, 0, 5);
        List<String> before = Check.state(x);
        for (int t : Check.FAR_INTS) {
            check.same(call(t, 7), start(x, t, 7), false);
        }
        check.same(call(threads, 7), start(x, threads, 7), false);
        check.sameState("refused for the thread", Check.state(x), before);
        check.same(call(threads - 1, 7), start(x, threads - 1, 7), true);
    }

    private void checkRefusedInPhase(int phase, boolean otherPushes) {
        EpochReclaim x = new EpochReclaim(8, 2, 3);
        Runs.pushWhole(x, 1, 5);
        if (otherPushes) {
            x.push(0, 6);
        } else {
            x.pop(0);
        }
        for (int i = 0; i < 6 && x.phase(0) != phase; i++) {
            x.step(0);
        }
        if (x.phase(0) == phase) {
            List<String> before = Check.state(x);
            check.same(call(0, 7) + " in phase " + phase, start(x, 0, 7), false);
            check.sameState(call(0, 7) + " in phase " + phase, Check.state(x), before);
        }
    }

    private void checkFirstStart() {
        int[] values = {0, 1, -1, -7, Integer.MIN_VALUE, Integer.MAX_VALUE};
        for (int v : values) {
            EpochReclaim x = new EpochReclaim(8, 3, 3);
            List<String> before = Check.state(x);
            check.same(call(1, v), start(x, 1, v), true);
            checkStarted(x, v, before);
        }
    }

    /** The locals of the operation before are gone, its lastResult and lastValue stay. */
    private void checkStartAfterAnother() {
        EpochReclaim x = new EpochReclaim(8, 3, 3);
        x.tryAdvance();
        Runs.pushWhole(x, 0, 4);
        Runs.pushWhole(x, 1, 9);
        x.pop(2);
        Runs.steps(x, 2, 3);
        List<String> before = Check.state(x);
        check.same(call(1, -3), start(x, 1, -3), true);
        checkStarted(x, -3, before);
        check.same("lastResult after " + call(1, -3), x.lastResult(1), EpochReclaim.RES_OK);
        check.same("lastValue after " + call(1, -3), x.lastValue(1), 9);

        EpochReclaim y = new EpochReclaim(8, 3, 3);
        Runs.pushWhole(y, 0, 4);
        Runs.pushWhole(y, 0, 9);
        Runs.popWhole(y, 1);
        before = Check.state(y);
        check.same(call(1, -3), start(y, 1, -3), true);
        checkStarted(y, -3, before);
    }

    private void checkStarted(EpochReclaim x, int v, List<String> before) {
        String after = " after " + call(1, v);
        check.same("kind" + after, x.local(1, EpochReclaim.L_KIND),
            pushing ? EpochReclaim.KIND_PUSH : EpochReclaim.KIND_POP);
        check.same("mine" + after, x.local(1, EpochReclaim.L_MINE), EpochReclaim.NIL);
        check.same("seen" + after, x.local(1, EpochReclaim.L_SEEN), EpochReclaim.NIL);
        check.same("value" + after, x.local(1, EpochReclaim.L_VALUE), pushing ? v : 0);
        check.same("result" + after, x.local(1, EpochReclaim.L_RESULT), EpochReclaim.RES_NONE);
        check.same("phase" + after, x.phase(1), EpochReclaim.PH_PIN);
        check.same("announced" + after, x.announced(1), -1);
        check.sameStateBut(call(1, v), Check.state(x), before, "local(1", "phase(1");
    }
}
