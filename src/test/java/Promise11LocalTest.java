import java.util.List;

/** Promise 11: local. */
public final class Promise11LocalTest {
    private static final Check CHECK = new Check("promise 11");

    public static void main(String[] args) {
        checkLocalsKeptAfterTheEnd();
        for (int threads = 2; threads <= 4; threads++) {
            checkRange(threads);
        }
        CHECK.end();
    }

    private static void locals(EpochReclaim x, int t, int... due) {
        for (int what = 0; what < due.length; what++) {
            CHECK.same("local(" + t + ", " + what + ")", x.local(t, what), due[what]);
        }
    }

    private static void checkLocalsKeptAfterTheEnd() {
        EpochReclaim x = new EpochReclaim(8, 2, 3);
        locals(x, 0, 0, -1, -1, 0, 0);
        Runs.pushWhole(x, 0, 5);
        Runs.pushWhole(x, 0, -1);
        locals(x, 0, 1, 1, 0, -1, 1);
        locals(x, 1, 0, -1, -1, 0, 0);
        Runs.popWhole(x, 1);
        locals(x, 1, 2, 1, 0, -1, 1);
        Runs.advances(x, 3);
        locals(x, 1, 2, 1, 0, -1, 1);
        locals(x, 0, 1, 1, 0, -1, 1);
        x.push(1, 8);
        locals(x, 1, 1, -1, -1, 8, 0);
        x.run(1, 64);
        locals(x, 1, 1, 1, 0, 8, 1);
        Runs.popWhole(x, 1);
        Runs.popWhole(x, 1);
        locals(x, 1, 2, 0, -1, 5, 1);
        Runs.popWhole(x, 1);
        locals(x, 1, 2, -1, -1, 0, 2);
    }

    private static void checkRange(int threads) {
        EpochReclaim x = new EpochReclaim(8, threads, 3);
        Runs.pushWhole(x, 0, 4);
        Runs.pushWhole(x, threads - 1, 5);
        List<String> before = Check.state(x);
        for (int what = 0; what < 5; what++) {
            for (int t : Check.FAR_INTS) {
                CHECK.same("local(" + t + ", " + what + ")", x.local(t, what), -1);
            }
            CHECK.same("local(threads, " + what + ")", x.local(threads, what), -1);
        }
        for (int what : Check.FAR_INTS) {
            CHECK.same("local(0, " + what + ")", x.local(0, what), -1);
            CHECK.same("local(-1, " + what + ")", x.local(-1, what), -1);
        }
        CHECK.same("local(0, 5)", x.local(0, 5), -1);
        locals(x, threads - 1, 1, 1, 0, 5, 1);
        CHECK.sameState("local", Check.state(x), before);
    }
}
