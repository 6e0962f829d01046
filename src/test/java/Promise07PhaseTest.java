import java.util.List;

/** Promise 7: phase. */
public final class Promise07PhaseTest {
    private static final Check CHECK = new Check("promise 7");

    public static void main(String[] args) {
        checkPhases(true, new int[] {1, 2, 3, 4, 6, 8, 0});
        checkPhases(false, new int[] {1, 3, 5, 6, 7, 8, 0});
        for (int threads = 2; threads <= 4; threads++) {
            checkRange(threads);
        }
        CHECK.end();
    }

    private static void checkPhases(boolean pushing, int[] due) {
        EpochReclaim x = new EpochReclaim(8, 4, 3);
        Runs.pushWhole(x, 3, 5);
        CHECK.same("phase(2) idle", x.phase(2), EpochReclaim.PH_IDLE);
        if (pushing) {
            x.push(2, 6);
        } else {
            x.pop(2);
        }
        for (int phase : due) {
            CHECK.same("phase(2)", x.phase(2), phase);
            CHECK.same("phase(1)", x.phase(1), EpochReclaim.PH_IDLE);
            x.step(2);
        }
    }

    private static void checkRange(int threads) {
        EpochReclaim x = new EpochReclaim(8, threads, 3);
        x.push(threads - 1, 5);
        List<String> before = Check.state(x);
        for (int t : Check.FAR_INTS) {
            CHECK.same("phase(" + t + ")", x.phase(t), -1);
        }
        CHECK.same("phase(threads)", x.phase(threads), -1);
        CHECK.same("phase(threads - 1)", x.phase(threads - 1), EpochReclaim.PH_PIN);
        CHECK.sameState("phase", Check.state(x), before);
    }
}
