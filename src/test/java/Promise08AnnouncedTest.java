import java.util.List;

/** Promise 8: announced. */
public final class Promise08AnnouncedTest {
    private static final Check CHECK = new Check("promise 8");

    public static void main(String[] args) {
        checkWhilePinned(true);
        checkWhilePinned(false);
        for (int threads = 2; threads <= 4; threads++) {
            checkRange(threads);
        }
        CHECK.end();
    }

    private static void checkWhilePinned(boolean pushing) {
        EpochReclaim x = new EpochReclaim(8, 3, 3);
        Runs.pushWhole(x, 0, 5);
        Runs.advances(x, 7);
        if (pushing) {
            x.push(1, 6);
        } else {
            x.pop(1);
        }
        CHECK.same("announced(1) before PIN", x.announced(1), -1);
        x.step(1);
        x.tryAdvance();
        for (int i = 0; i < 5; i++) {
            CHECK.same("announced(1) in phase " + x.phase(1), x.announced(1), 7);
            CHECK.same("announced(2)", x.announced(2), -1);
            x.step(1);
        }
        CHECK.same("announced(1) after UNPIN", x.announced(1), -1);
        x.pop(1);
        CHECK.same("announced(1) before the second PIN", x.announced(1), -1);
        x.step(1);
        CHECK.same("announced(1) after the second PIN", x.announced(1), 8);
    }

    private static void checkRange(int threads) {
        EpochReclaim x = new EpochReclaim(8, threads, 3);
        for (int t = 0; t < threads; t++) {
            x.pop(t);
            x.step(t);
        }
        List<String> before = Check.state(x);
        for (int t : Check.FAR_INTS) {
            CHECK.same("announced(" + t + ")", x.announced(t), -1);
        }
        CHECK.same("announced(threads)", x.announced(threads), -1);
        CHECK.same("announced(threads - 1)", x.announced(threads - 1), 0);
        CHECK.sameState("announced", Check.state(x), before);
    }
}
