import java.util.List;

/** Promise 10: lastValue. */
public final class Promise10LastValueTest {
    private static final Check CHECK = new Check("promise 10");

    public static void main(String[] args) {
        checkValues();
        checkFullAndEmpty();
        for (int threads = 2; threads <= 4; threads++) {
            checkRange(threads);
        }
        CHECK.end();
    }

    private static void checkValues() {
        int[] values = {0, 5, -1, -9, Integer.MIN_VALUE, Integer.MAX_VALUE};
        for (int v : values) {
            EpochReclaim x = new EpochReclaim(8, 2, 3);
            CHECK.same("lastValue(0) at the start", x.lastValue(0), 0);
            x.push(0, v);
            x.run(0, 5);
            CHECK.same("lastValue(0) before UNPIN", x.lastValue(0), 0);
            x.step(0);
            CHECK.same("lastValue(0) of a push", x.lastValue(0), v);
            x.pop(1);
            x.run(1, 5);
            CHECK.same("lastValue(1) before UNPIN", x.lastValue(1), 0);
            x.step(1);
            CHECK.same("lastValue(1) of a pop", x.lastValue(1), v);
        }
    }

    private static void checkFullAndEmpty() {
        EpochReclaim x = new EpochReclaim(8, 2, 3);
        for (int i = 0; i < 9; i++) {
            Runs.pushWhole(x, 0, 40 + i);
        }
        CHECK.same("lastResult(0)", x.lastResult(0), EpochReclaim.RES_FULL);
        CHECK.same("lastValue(0) of a push into a full heap", x.lastValue(0), 48);
        for (int i = 7; i >= 0; i--) {
            Runs.popWhole(x, 1);
            CHECK.same("lastValue(1) of a pop", x.lastValue(1), 40 + i);
        }
        Runs.popWhole(x, 1);
        CHECK.same("lastResult(1)", x.lastResult(1), EpochReclaim.RES_EMPTY);
        CHECK.same("lastValue(1) of a pop of nothing", x.lastValue(1), 0);
        CHECK.same("lastValue(0) still", x.lastValue(0), 48);
    }

    private static void checkRange(int threads) {
        EpochReclaim x = new EpochReclaim(8, threads, 3);
        Runs.pushWhole(x, threads - 1, 5);
        List<String> before = Check.state(x);
        for (int t : Check.FAR_INTS) {
            CHECK.same("lastValue(" + t + ")", x.lastValue(t), -1);
        }
        CHECK.same("lastValue(threads)", x.lastValue(threads), -1);
        CHECK.same("lastValue(threads - 1)", x.lastValue(threads - 1), 5);
        CHECK.sameState("lastValue", Check.state(x), before);
    }
}
