import java.util.List;

/** Promise 9: lastResult. */
public final class Promise09LastResultTest {
    private static final Check CHECK = new Check("promise 9");

    public static void main(String[] args) {
        checkResults();
        for (int threads = 2; threads <= 4; threads++) {
            checkRange(threads);
        }
        CHECK.end();
    }

    private static void checkResults() {
        EpochReclaim x = new EpochReclaim(8, 2, 3);
        CHECK.same("lastResult(0) at the start", x.lastResult(0), EpochReclaim.RES_NONE);
        x.pop(0);
        x.run(0, 2);
        CHECK.same("lastResult(0) before UNPIN", x.lastResult(0), EpochReclaim.RES_NONE);
        x.step(0);
        CHECK.same("lastResult(0) of a pop of nothing", x.lastResult(0), EpochReclaim.RES_EMPTY);
        CHECK.same("lastResult(1)", x.lastResult(1), EpochReclaim.RES_NONE);
        x.push(0, 5);
        x.run(0, 5);
        CHECK.same("lastResult(0) while the push goes on", x.lastResult(0), EpochReclaim.RES_EMPTY);
        x.step(0);
        CHECK.same("lastResult(0) of a push", x.lastResult(0), EpochReclaim.RES_OK);
        for (int i = 0; i < 8; i++) {
            Runs.pushWhole(x, 1, i);
        }
        CHECK.same("lastResult(1) of a push into a full heap", x.lastResult(1), EpochReclaim.RES_FULL);
        CHECK.same("lastResult(0) still", x.lastResult(0), EpochReclaim.RES_OK);
        Runs.popWhole(x, 1);
        CHECK.same("lastResult(1) of a pop", x.lastResult(1), EpochReclaim.RES_OK);
    }

    private static void checkRange(int threads) {
        EpochReclaim x = new EpochReclaim(8, threads, 3);
        Runs.pushWhole(x, threads - 1, 5);
        List<String> before = Check.state(x);
        for (int t : Check.FAR_INTS) {
            CHECK.same("lastResult(" + t + ")", x.lastResult(t), -1);
        }
        CHECK.same("lastResult(threads)", x.lastResult(threads), -1);
        CHECK.same("lastResult(threads - 1)", x.lastResult(threads - 1), EpochReclaim.RES_OK);
        CHECK.sameState("lastResult", Check.state(x), before);
    }
}
