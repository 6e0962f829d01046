/** Promise 9: lastResult. */
public final class Promise09LastResultTest {
    private static final Check CHECK = new Check("promise 9");

    public static void main(String[] args) {
        CHECK.holds("`lastResult(t)` answers lastResult of thread t as a `RES_` code",
            Promise09LastResultTest::everyResult);
        CHECK.holds("(`RES_NONE` before any of its operations ended)", Promise09LastResultTest::noneBeforeTheFirstEnd);
        CHECK.holds("or -1 if t is not in `0..threads-1`.",
            () -> ThreadRange.check(CHECK, "lastResult", EpochReclaim::lastResult));
        CHECK.holds("It changes nothing.",
            () -> ThreadRange.changesNothing(CHECK, "lastResult", EpochReclaim::lastResult));
        CHECK.end();
    }

    private static void everyResult() {
        EpochReclaim x = new EpochReclaim(8, 2, 3);
        Runs.popWhole(x, 0);
        CHECK.same("lastResult(0) of a pop of nothing", x.lastResult(0), EpochReclaim.RES_EMPTY);
        x.push(0, 5);
        x.run(0, 5);
        CHECK.same("lastResult(0) while the push goes on", x.lastResult(0), EpochReclaim.RES_EMPTY);
        x.step(0);
        CHECK.same("lastResult(0) of a push", x.lastResult(0), EpochReclaim.RES_OK);
        for (int i = 0; i < 7; i++) {
            Runs.pushWhole(x, 1, i);
            CHECK.same("lastResult(1) of a push", x.lastResult(1), EpochReclaim.RES_OK);
        }
        Runs.pushWhole(x, 1, 7);
        CHECK.same("lastResult(1) of a push into a full heap", x.lastResult(1), EpochReclaim.RES_FULL);
        CHECK.same("lastResult(0) still", x.lastResult(0), EpochReclaim.RES_OK);
        x.pop(1);
        x.run(1, 5);
        CHECK.same("lastResult(1) while the pop goes on", x.lastResult(1), EpochReclaim.RES_FULL);
        x.step(1);
        CHECK.same("lastResult(1) of a pop", x.lastResult(1), EpochReclaim.RES_OK);
    }

    private static void noneBeforeTheFirstEnd() {
        for (boolean pushing : new boolean[] {true, false}) {
            EpochReclaim x = new EpochReclaim(8, 2, 3);
            Runs.pushWhole(x, 1, 5);
            CHECK.same("lastResult(0) at the start", x.lastResult(0), EpochReclaim.RES_NONE);
            Runs.start(x, 0, pushing, 6);
            for (int i = 0; i < 6; i++) {
                CHECK.same("lastResult(0) in phase " + x.phase(0), x.lastResult(0), EpochReclaim.RES_NONE);
                x.step(0);
            }
            CHECK.same("lastResult(0) after UNPIN", x.lastResult(0), EpochReclaim.RES_OK);
        }
    }
}
