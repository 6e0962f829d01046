/** Promise 4, the step RETIRE: full limbo lists, and cells that are no longer LIVE. */
public final class Promise04RetireTest {
    private static final Check CHECK = new Check("promise 4, RETIRE");
    private static final int RETIRE = EpochReclaim.PH_RETIRE;
    private static final int UNPIN = EpochReclaim.PH_UNPIN;

    public static void main(String[] args) {
        CHECK.holds("k = announced epoch mod 3.", Promise04RetireTest::listOfTheAnnouncedEpoch);
        CHECK.holds("If limbo list k holds fewer than `LIMBO_CAP` entries, mine is appended to it",
            () -> forEachList(Promise04RetireTest::appended));
        CHECK.holds("otherwise `C_DROPPED` rises by 1.", () -> forEachList(Promise04RetireTest::dropped));
        CHECK.holds("Then, if cell mine is LIVE it becomes RETIRED", Promise04RetireTest::liveBecomesRetired);
        CHECK.holds("Then, if cell mine is LIVE it becomes RETIRED [in a full list too]",
            Promise04RetireTest::liveBecomesRetiredWhenDropped);
        CHECK.holds("a FREE or RETIRED cell keeps its state. [RETIRED]", Promise04RetireTest::retiredStays);
        CHECK.holds("a FREE or RETIRED cell keeps its state. [FREE]", Promise04RetireTest::freeStays);
        CHECK.holds("a FREE or RETIRED cell keeps its state. [in a full list too]",
            Promise04RetireTest::statesStayWhenDropped);
        CHECK.holds("`C_RETIRES` rises by 1 in both cases.", Promise04RetireTest::retiresAreCounted);
        CHECK.holds("This is not an access and never traps.", Promise04RetireTest::neverTraps);
        CHECK.end();
    }

    private interface OneList {
        void check(EpochReclaim x, int k);
    }

    /** A pop takes cell 0 each time, however often it is called: its entries go to list k, the list of E. */
    private static void forEachList(OneList test) {
        for (int advances = 0; advances < 6; advances++) {
            EpochReclaim x = Runs.selfLoop();
            Runs.advances(x, advances);
            test.check(x, x.counter(EpochReclaim.C_EPOCH) % 3);
        }
    }

    private static void fill(EpochReclaim x, int k, int size) {
        for (int i = 0; i < EpochReclaim.LIMBO_CAP && x.limboSize(k) < size; i++) {
            Runs.popWhole(x, 0);
        }
        CHECK.same("limboSize(" + k + ")", x.limboSize(k), size);
    }

    private static void listOfTheAnnouncedEpoch() {
        for (int e = 0; e < 7; e++) {
            EpochReclaim x = new EpochReclaim(8, 2, 3);
            Runs.pushWhole(x, 0, 4);
            Runs.pushWhole(x, 0, 5);
            Runs.advances(x, e);
            x.pop(0);
            x.step(0);
            x.pop(1);
            Runs.steps(x, 1, 4);
            CHECK.stepChanging(x, 1, RETIRE, UNPIN, "limboSize(" + e % 3, "limboCell(" + e % 3 + ", 0", "cell(1, 0",
                "counter(6");
            CHECK.limbo(x, e % 3, 1);
            x.run(1, 64);
            // Thread 0 pinned in epoch e too, but comes to retire in the epoch after.
            CHECK.same("tryAdvance", x.tryAdvance(), true);
            x.run(0, 64);
            CHECK.limbo(x, e % 3, 1, 0);
            CHECK.limbo(x, (e + 1) % 3);
            CHECK.limbo(x, (e + 2) % 3);
        }
    }

    private static void appended(EpochReclaim x, int k) {
        for (int n = x.limboSize(k); n < EpochReclaim.LIMBO_CAP; n++) {
            x.pop(0);
            Runs.steps(x, 0, 4);
            CHECK.stepChanging(x, 0, RETIRE, UNPIN, "limboSize(" + k, "limboCell(" + k + ", " + n, "cell(0, 0",
                "counter(6");
            CHECK.same("limboSize(" + k + ")", x.limboSize(k), n + 1);
            CHECK.same("limboCell(" + k + ", " + n + ")", x.limboCell(k, n), 0);
            CHECK.same("dropped", x.counter(EpochReclaim.C_DROPPED), 0);
            x.step(0);
        }
        CHECK.same("limboSize(" + k + ")", x.limboSize(k), 32);
    }

    private static void dropped(EpochReclaim x, int k) {
        fill(x, k, EpochReclaim.LIMBO_CAP);
        CHECK.same("dropped", x.counter(EpochReclaim.C_DROPPED), 0);
        for (int n = 1; n <= 3; n++) {
            x.pop(0);
            Runs.steps(x, 0, 4);
            CHECK.stepChanging(x, 0, RETIRE, UNPIN, "counter(3", "counter(6");
            CHECK.same("dropped", x.counter(EpochReclaim.C_DROPPED), n);
            CHECK.same("limboSize(" + k + ")", x.limboSize(k), EpochReclaim.LIMBO_CAP);
            x.step(0);
        }
    }

    private static void liveBecomesRetired() {
        EpochReclaim x = new EpochReclaim(8, 2, 3);
        Runs.pushWhole(x, 0, 5);
        x.pop(0);
        Runs.steps(x, 0, 4);
        CHECK.cell(x, 0, EpochReclaim.STATE_LIVE, 5, EpochReclaim.NIL);
        CHECK.stepChanging(x, 0, RETIRE, UNPIN, "cell(0, 0", "limbo", "counter(6");
        CHECK.cell(x, 0, EpochReclaim.STATE_RETIRED, 5, EpochReclaim.NIL);
        CHECK.same("free cells", x.counter(EpochReclaim.C_FREE_CELLS), 7);
    }

    private static void liveBecomesRetiredWhenDropped() {
        EpochReclaim x = Runs.selfLoop();
        fill(x, 1, EpochReclaim.LIMBO_CAP);
        Runs.pushWhole(x, 0, 99);
        int c = x.top();
        CHECK.cell(x, c, EpochReclaim.STATE_LIVE, 99, 0);
        x.pop(0);
        Runs.steps(x, 0, 4);
        CHECK.stepChanging(x, 0, RETIRE, UNPIN, "cell(" + c + ", 0", "counter(3", "counter(6");
        CHECK.cell(x, c, EpochReclaim.STATE_RETIRED, 99, 0);
        CHECK.same("dropped", x.counter(EpochReclaim.C_DROPPED), 1);
    }

    private static void retiredStays() {
        EpochReclaim x = Runs.selfLoop();
        Runs.popWhole(x, 0);
        CHECK.cell(x, 0, EpochReclaim.STATE_RETIRED, 30, 0);
        x.pop(1);
        Runs.steps(x, 1, 4);
        CHECK.stepChanging(x, 1, RETIRE, UNPIN, "limboSize(1", "limboCell(1, 1", "counter(6");
        CHECK.cell(x, 0, EpochReclaim.STATE_RETIRED, 30, 0);
        CHECK.limbo(x, 1, 0, 0);
    }

    private static EpochReclaim freeSelfLoop() {
        EpochReclaim x = Runs.selfLoop();
        Runs.popWhole(x, 0);
        x.tryAdvance();
        CHECK.cell(x, 0, EpochReclaim.STATE_FREE, 30, 0);
        return x;
    }

    private static void freeStays() {
        EpochReclaim x = freeSelfLoop();
        x.pop(1);
        Runs.steps(x, 1, 4);
        CHECK.stepChanging(x, 1, RETIRE, UNPIN, "limboSize(2", "limboCell(2, 0", "counter(6");
        CHECK.cell(x, 0, EpochReclaim.STATE_FREE, 30, 0);
        CHECK.limbo(x, 2, 0);
    }

    private static void statesStayWhenDropped() {
        EpochReclaim retired = Runs.selfLoop();
        fill(retired, 1, EpochReclaim.LIMBO_CAP);
        Runs.popWhole(retired, 0);
        CHECK.cell(retired, 0, EpochReclaim.STATE_RETIRED, 30, 0);
        CHECK.same("dropped", retired.counter(EpochReclaim.C_DROPPED), 1);

        EpochReclaim free = freeSelfLoop();
        fill(free, 2, EpochReclaim.LIMBO_CAP);
        Runs.popWhole(free, 0);
        CHECK.cell(free, 0, EpochReclaim.STATE_FREE, 30, 0);
        CHECK.same("dropped", free.counter(EpochReclaim.C_DROPPED), 1);
    }

    private static void retiresAreCounted() {
        EpochReclaim x = Runs.selfLoop();
        int before = x.counter(EpochReclaim.C_RETIRES);
        for (int n = 1; n <= 40; n++) {
            x.pop(2);
            Runs.steps(x, 2, 4);
            CHECK.same("retires before RETIRE", x.counter(EpochReclaim.C_RETIRES), before + n - 1);
            x.step(2);
            CHECK.same("retires after RETIRE " + n, x.counter(EpochReclaim.C_RETIRES), before + n);
            x.step(2);
        }
        CHECK.same("dropped", x.counter(EpochReclaim.C_DROPPED), 8);
        Runs.pushWhole(x, 2, 5);
        CHECK.same("retires after a push", x.counter(EpochReclaim.C_RETIRES), before + 40);
    }

    private static void neverTraps() {
        EpochReclaim x = freeSelfLoop();
        for (int n = 1; n <= 40; n++) {
            x.pop(1);
            Runs.steps(x, 1, 4);
            CHECK.traps(x, n, 0, 0);
            x.step(1);
            CHECK.traps(x, n, 0, 0);
            x.step(1);
        }
    }
}
