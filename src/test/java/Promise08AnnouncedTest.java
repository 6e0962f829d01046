/** Promise 8: announced. */
public final class Promise08AnnouncedTest {
    private static final Check CHECK = new Check("promise 8");

    public static void main(String[] args) {
        CHECK.holds("`announced(t)` answers the announced epoch of thread t if t is pinned",
            Promise08AnnouncedTest::epochWhilePinned);
        CHECK.holds("-1 if t is not pinned", Promise08AnnouncedTest::notPinned);
        CHECK.holds("or t is not in `0..threads-1`.",
            () -> ThreadRange.check(CHECK, "announced", EpochReclaim::announced));
        CHECK.holds("It changes nothing.",
            () -> ThreadRange.changesNothing(CHECK, "announced", EpochReclaim::announced));
        CHECK.end();
    }

    /** Announced in epoch e, also when E has gone on; e = 0 is an epoch like the others. */
    private static void epochWhilePinned() {
        for (boolean pushing : new boolean[] {true, false}) {
            for (int e = 0; e < 8; e++) {
                EpochReclaim x = new EpochReclaim(8, 3, 3);
                Runs.pushWhole(x, 0, 5);
                Runs.advances(x, e);
                Runs.start(x, 1, pushing, 6);
                x.step(1);
                CHECK.same("announced(1)", x.announced(1), e);
                CHECK.same("tryAdvance", x.tryAdvance(), true);
                for (int i = 0; i < 5; i++) {
                    CHECK.same("announced(1) in phase " + x.phase(1), x.announced(1), e);
                    x.step(1);
                }
                x.pop(1);
                x.step(1);
                CHECK.same("announced(1) after the second PIN", x.announced(1), e + 1);
            }
        }
    }

    /** Before the first operation, before PIN, right after UNPIN, and before the PIN of the next operation. */
    private static void notPinned() {
        for (boolean pushing : new boolean[] {true, false}) {
            EpochReclaim x = new EpochReclaim(8, 3, 3);
            Runs.pushWhole(x, 0, 5);
            CHECK.same("announced(1) at the start", x.announced(1), -1);
            Runs.start(x, 1, pushing, 6);
            CHECK.same("announced(1) before PIN", x.announced(1), -1);
            x.step(1);
            CHECK.same("announced(1) after PIN", x.announced(1), 0);
            CHECK.same("announced(2) beside it", x.announced(2), -1);
            x.run(1, 4);
            CHECK.same("announced(1) before UNPIN", x.announced(1), 0);
            x.step(1);
            CHECK.same("announced(1) after UNPIN", x.announced(1), -1);
            Runs.start(x, 1, pushing, 6);
            CHECK.same("announced(1) before the next PIN", x.announced(1), -1);
        }
        EpochReclaim empty = new EpochReclaim(8, 2, 3);
        Runs.popWhole(empty, 0);
        CHECK.same("announced(0) after a pop of nothing", empty.announced(0), -1);
        EpochReclaim full = Runs.fullHeap(8, 2, 3, 0);
        Runs.pushWhole(full, 1, 5);
        CHECK.same("announced(1) after a push into a full heap", full.announced(1), -1);
    }
}
