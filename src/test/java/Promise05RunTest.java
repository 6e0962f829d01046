import java.util.List;

/** Promise 5: run does what as many steps do, within 1 to 64. */
public final class Promise05RunTest {
    private static final Check CHECK = new Check("promise 5");

    public static void main(String[] args) {
        checkRefused();
        int[][] limits = {{1, 1}, {2, 2}, {5, 5}, {6, 6}, {7, 6}, {64, 6}, {65, 6}, {Integer.MAX_VALUE, 6},
            {0, 1}, {-1, 1}, {Integer.MIN_VALUE, 1}};
        for (int[] pair : limits) {
            checkAgainstSteps(true, pair[0], pair[1]);
            checkAgainstSteps(false, pair[0], pair[1]);
        }
        checkShortOperations();
        checkRepeatedTries();
        CHECK.end();
    }

    private static EpochReclaim begun(boolean pushing) {
        EpochReclaim x = new EpochReclaim(8, 3, 3);
        Runs.pushWhole(x, 1, 5);
        x.push(2, 6);
        x.step(2);
        if (pushing) {
            x.push(0, 7);
        } else {
            x.pop(0);
        }
        return x;
    }

    private static void checkAgainstSteps(boolean pushing, int maxSteps, int due) {
        EpochReclaim ran = begun(pushing);
        EpochReclaim stepped = begun(pushing);
        CHECK.same("run(0, " + maxSteps + ")", ran.run(0, maxSteps), due);
        Runs.steps(stepped, 0, due);
        CHECK.sameState("run(0, " + maxSteps + ")", Check.state(ran), Check.state(stepped));
    }

    private static void checkRefused() {
        EpochReclaim x = begun(true);
        x.run(1, 64);
        List<String> before = Check.state(x);
        for (int t : Check.FAR_INTS) {
            CHECK.same("run(" + t + ", 5)", x.run(t, 5), 0);
        }
        CHECK.same("run(3, 5) of three threads", x.run(3, 5), 0);
        CHECK.same("run(1, 5) idle", x.run(1, 5), 0);
        CHECK.same("run(1, 0) idle", x.run(1, 0), 0);
        CHECK.sameState("refused runs", Check.state(x), before);
    }

    private static void checkShortOperations() {
        EpochReclaim x = new EpochReclaim(8, 2, 3);
        x.pop(0);
        CHECK.same("run of a pop of nothing", x.run(0, 64), 3);
        for (int i = 0; i < 8; i++) {
            Runs.pushWhole(x, 0, i);
        }
        x.push(1, 9);
        CHECK.same("run of a push into a full heap", x.run(1, 64), 3);
        CHECK.same("run once more", x.run(1, 64), 0);
    }

    /** A CAS that fails costs the way back from READ_TOP. */
    private static void checkRepeatedTries() {
        EpochReclaim x = new EpochReclaim(8, 2, 3);
        x.push(0, 5);
        CHECK.same("run(0, 4)", x.run(0, 4), 4);
        Runs.pushWhole(x, 1, 6);
        CHECK.same("run(0, 64) after a lost race", x.run(0, 64), 5);
        CHECK.same("top", x.top(), 0);
    }
}
