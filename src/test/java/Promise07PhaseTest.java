/** Promise 7: phase. */
public final class Promise07PhaseTest {
    private static final Check CHECK = new Check("promise 7");

    public static void main(String[] args) {
        CHECK.holds("`phase(t)` answers the phase of thread t as a `PH_` code", Promise07PhaseTest::everyPhase);
        CHECK.holds("or -1 if t is not in `0..threads-1`.",
            () -> ThreadRange.check(CHECK, "phase", EpochReclaim::phase));
        CHECK.holds("It changes nothing.", () -> ThreadRange.changesNothing(CHECK, "phase", EpochReclaim::phase));
        CHECK.end();
    }

    private static void everyPhase() {
        phases(true, 1, 2, 3, 4, 6, 8, 0, 0);
        phases(false, 1, 3, 5, 6, 7, 8, 0, 0);
    }

    private static void phases(boolean pushing, int... due) {
        for (int t = 0; t < 4; t++) {
            EpochReclaim x = new EpochReclaim(8, 4, 3);
            Runs.pushWhole(x, 3, 5);
            CHECK.same("phase(" + t + ") idle", x.phase(t), 0);
            Runs.start(x, t, pushing, 6);
            for (int phase : due) {
                CHECK.same("phase(" + t + ")", x.phase(t), phase);
                CHECK.same("phase of another thread", x.phase((t + 1) % 4), 0);
                x.step(t);
            }
        }
    }
}
