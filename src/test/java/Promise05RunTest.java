import java.util.List;

/** Promise 5: run does what as many steps do, within 1 to 64. */
public final class Promise05RunTest {
    private static final Check CHECK = new Check("promise 5");
    private static final int[] LIMITS = {Integer.MIN_VALUE, Integer.MIN_VALUE + 1, -65, -64, -63, -2, -1, 0, 1, 2, 3, 4,
        5, 6, 7, 8, 63, 64, 65, 66, 256, 65536, Integer.MAX_VALUE - 1, Integer.MAX_VALUE};

    public static void main(String[] args) {
        CHECK.holds("`run(t, maxSteps)` is refused, answering 0 and changing nothing, if t is not in `0..threads-1`",
            Promise05RunTest::refusedForTheThread);
        CHECK.holds("or `phase(t) == PH_IDLE`.", Promise05RunTest::refusedWhenIdle);
        CHECK.holds("maxSteps is clamped into 1..64 (below 1 becomes 1", Promise05RunTest::belowOneBecomesOne);
        CHECK.holds("above 64 becomes 64)", Promise05RunTest::sixtyFourAndMore);
        CHECK.holds("maxSteps is clamped into 1..64 (below 1 becomes 1, above 64 becomes 64). [a thread without an "
            + "end]", Promise05RunTest::withoutAnEnd);
        CHECK.holds("It executes steps of t exactly as `step(t)` does, one after the other",
            Promise05RunTest::sameAsSteps);
        CHECK.holds("stopping as soon as `phase(t)` is `PH_IDLE`", Promise05RunTest::stopsWhenIdle);
        CHECK.holds("or the clamped number of steps was done", Promise05RunTest::stopsAtTheLimit);
        CHECK.holds("and answers the number of steps executed (between 1 and 64).",
            Promise05RunTest::answersTheNumberOfSteps);
        CHECK.holds("Other threads take no steps during run.", Promise05RunTest::otherThreadsTakeNoSteps);
        CHECK.end();
    }

    private static EpochReclaim begun(boolean pushing) {
        EpochReclaim x = new EpochReclaim(8, 3, 3);
        Runs.pushWhole(x, 1, 5);
        x.push(2, 6);
        x.step(2);
        Runs.start(x, 0, pushing, 7);
        return x;
    }

    private static void refusedForTheThread() {
        for (int threads = 2; threads <= 4; threads++) {
            EpochReclaim x = new EpochReclaim(8, threads, 3);
            for (int t = 0; t < threads; t++) {
                x.push(t, 6);
                x.run(t, 1 + t);
            }
            for (int t : Edges.outside(0, threads - 1)) {
                for (int limit : LIMITS) {
                    CHECK.refused(x, "run " + t + " " + limit, 0);
                }
            }
            CHECK.same("run(0, 1)", x.run(0, 1), 1);
            CHECK.same("run(threads - 1, 1)", x.run(threads - 1, 1), 1);
        }
    }

    private static void refusedWhenIdle() {
        EpochReclaim x = begun(true);
        x.run(0, 64);
        for (int limit : LIMITS) {
            CHECK.refused(x, "run 0 " + limit, 0);
            CHECK.refused(x, "run 1 " + limit, 0);
            CHECK.refused(new EpochReclaim(8, 2, 3), "run 0 " + limit, 0);
        }
        CHECK.same("run(2, 1) of a thread that is not idle", x.run(2, 1), 1);
    }

    private static void belowOneBecomesOne() {
        for (int limit : LIMITS) {
            if (limit <= 1) {
                EpochReclaim x = begun(true);
                CHECK.same("run(0, " + limit + ")", x.run(0, limit), 1);
                CHECK.same("phase(0)", x.phase(0), EpochReclaim.PH_ALLOC);
                EpochReclaim y = begun(false);
                CHECK.same("run(0, " + limit + ")", y.run(0, limit), 1);
                CHECK.same("phase(0)", y.phase(0), EpochReclaim.PH_READ_TOP);
            }
        }
        CHECK.same("run(0, 2)", begun(true).run(0, 2), 2);
    }

    /** No operation of a thread alone takes more than seven steps, so these limits all let it come to its end. */
    private static void sixtyFourAndMore() {
        for (int limit : LIMITS) {
            if (limit >= 63) {
                EpochReclaim x = begun(true);
                CHECK.same("run(0, " + limit + ")", x.run(0, limit), 6);
                CHECK.same("phase(0)", x.phase(0), EpochReclaim.PH_IDLE);
                CHECK.same("run(0, " + limit + ")", longest().run(0, limit), 7);
            }
        }
    }

    /**
     * No call leads to a phase that never ends, and without one no answer tells the bound 64 from 63 or 65. So the
     * thread is given a phase that is none, if the class holds its phases so that this can be done.
     */
    private static void withoutAnEnd() {
        int noPhase = 99;
        for (int limit : LIMITS) {
            EpochReclaim x = begun(true);
            if (Inside.setPhase(x, 0, noPhase) && stays(x, noPhase)) {
                CHECK.same("run(0, " + limit + ")", x.run(0, limit), Math.max(1, Math.min(64, limit)));
            } else {
                CHECK.notCompared("run(0, " + limit + ") of a thread without an end");
            }
        }
    }

    private static boolean stays(EpochReclaim x, int phase) {
        Runs.steps(x, 0, 100);
        return x.phase(0) == phase;
    }

    /** Thread 0 is about to read a cell that is no longer the top: its way is as long as one can be. */
    private static EpochReclaim longest() {
        EpochReclaim x = new EpochReclaim(8, 2, 3);
        Runs.pushWhole(x, 0, 5);
        x.pop(0);
        Runs.steps(x, 0, 2);
        Runs.pushWhole(x, 1, 6);
        return x;
    }

    private static void sameAsSteps() {
        for (Situations.Situation situation : Situations.all()) {
            for (int t = 0; t < situation.threads; t++) {
                for (int limit = 1; limit <= 8; limit++) {
                    EpochReclaim ran = situation.make();
                    EpochReclaim stepped = situation.makeBySteps();
                    int done = Runs.stepsUntilIdle(stepped, t, limit);
                    String call = situation.name + ": run(" + t + ", " + limit + ")";
                    CHECK.same(call, ran.run(t, limit), done);
                    CHECK.sameState(call, Check.state(ran), Check.state(stepped));
                }
            }
        }
    }

    private static void stopsWhenIdle() {
        EpochReclaim empty = new EpochReclaim(8, 2, 3);
        empty.pop(0);
        CHECK.same("run of a pop of nothing", empty.run(0, 64), 3);
        CHECK.same("phase(0)", empty.phase(0), EpochReclaim.PH_IDLE);
        EpochReclaim full = Runs.fullHeap(8, 2, 3, 0);
        full.push(1, 9);
        CHECK.same("run of a push into a full heap", full.run(1, 64), 3);
        CHECK.same("phase(1)", full.phase(1), EpochReclaim.PH_IDLE);
        EpochReclaim last = begun(true);
        last.run(0, 5);
        CHECK.same("run of the last step", last.run(0, 64), 1);
        CHECK.same("run(0, 7)", begun(true).run(0, 7), 6);
        CHECK.same("run(0, 8)", longest().run(0, 8), 7);
        // It must not begin a new operation, nor do UNPIN twice.
        CHECK.same("run(0, 64) once more", last.run(0, 64), 0);
    }

    private static void stopsAtTheLimit() {
        for (boolean pushing : new boolean[] {true, false}) {
            int[] phases = Runs.phases(pushing);
            for (int limit = 1; limit <= 6; limit++) {
                EpochReclaim x = begun(pushing);
                CHECK.same("run(0, " + limit + ")", x.run(0, limit), limit);
                CHECK.same("phase(0) after run(0, " + limit + ")", x.phase(0),
                    limit < 6 ? phases[limit] : EpochReclaim.PH_IDLE);
            }
        }
        EpochReclaim six = longest();
        CHECK.same("run(0, 6)", six.run(0, 6), 6);
        CHECK.same("phase(0)", six.phase(0), EpochReclaim.PH_UNPIN);
        EpochReclaim seven = longest();
        CHECK.same("run(0, 7)", seven.run(0, 7), 7);
        CHECK.same("phase(0)", seven.phase(0), EpochReclaim.PH_IDLE);
    }

    private static void answersTheNumberOfSteps() {
        for (int limit : LIMITS) {
            int clamped = Math.max(1, Math.min(64, limit));
            CHECK.same("run(0, " + limit + ") of a push", begun(true).run(0, limit), Math.min(6, clamped));
            CHECK.same("run(0, " + limit + ") of a pop", begun(false).run(0, limit), Math.min(6, clamped));
            CHECK.same("run(0, " + limit + ") of two tries", longest().run(0, limit), Math.min(7, clamped));
        }
    }

    private static void otherThreadsTakeNoSteps() {
        for (boolean pushing : new boolean[] {true, false}) {
            EpochReclaim x = begun(pushing);
            x.push(1, 9);
            x.run(1, 3);
            List<String> before = Check.state(x);
            x.run(0, 64);
            CHECK.sameStateBut("run(0, 64)", Check.state(x), before, "phase(0", "announced(0", "lastResult(0",
                "lastValue(0", "local(0", "top", "cell", "limbo", "counter");
            CHECK.same("phase(1)", x.phase(1), EpochReclaim.PH_LINK);
            CHECK.same("phase(2)", x.phase(2), EpochReclaim.PH_ALLOC);
        }
    }
}
