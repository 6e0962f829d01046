/** Promise 10: lastValue. */
public final class Promise10LastValueTest {
    private static final Check CHECK = new Check("promise 10");

    public static void main(String[] args) {
        CHECK.holds("for a push the value pushed", Promise10LastValueTest::valuePushed);
        CHECK.holds("(also when the result was `RES_FULL`)", Promise10LastValueTest::valueOfAFullPush);
        CHECK.holds("for a pop the value popped", Promise10LastValueTest::valuePopped);
        CHECK.holds("(0 for `RES_EMPTY`)", Promise10LastValueTest::zeroForEmpty);
        CHECK.holds("0 before any operation of t ended.", Promise10LastValueTest::zeroBeforeTheFirstEnd);
        CHECK.holds("It answers -1 if t is not in `0..threads-1`",
            () -> ThreadRange.check(CHECK, "lastValue", EpochReclaim::lastValue));
        CHECK.holds("a genuine value may also be -1.", Promise10LastValueTest::genuineMinusOne);
        CHECK.holds("It changes nothing.",
            () -> ThreadRange.changesNothing(CHECK, "lastValue", EpochReclaim::lastValue));
        CHECK.end();
    }

    private static void valuePushed() {
        EpochReclaim x = new EpochReclaim(32, 2, 3);
        int before = 0;
        for (int v : Edges.VALUES) {
            x.push(0, v);
            x.run(0, 5);
            CHECK.same("lastValue(0) before UNPIN", x.lastValue(0), before);
            x.step(0);
            CHECK.same("lastValue(0) of a push", x.lastValue(0), v);
            before = v;
        }
        CHECK.same("lastValue(1)", x.lastValue(1), 0);
    }

    private static void valueOfAFullPush() {
        EpochReclaim x = Runs.fullHeap(8, 2, 3, 40);
        for (int v : Edges.VALUES) {
            Runs.pushWhole(x, 1, v);
            CHECK.same("lastResult(1)", x.lastResult(1), EpochReclaim.RES_FULL);
            CHECK.same("lastValue(1) of a push into a full heap", x.lastValue(1), v);
        }
        CHECK.same("lastValue(0)", x.lastValue(0), 47);
    }

    private static void valuePopped() {
        EpochReclaim x = new EpochReclaim(32, 2, 3);
        for (int v : Edges.VALUES) {
            Runs.pushWhole(x, 0, v);
        }
        int before = 0;
        for (int i = Edges.VALUES.length - 1; i >= 0; i--) {
            x.pop(1);
            x.run(1, 5);
            CHECK.same("lastValue(1) before UNPIN", x.lastValue(1), before);
            x.step(1);
            CHECK.same("lastValue(1) of a pop", x.lastValue(1), Edges.VALUES[i]);
            before = Edges.VALUES[i];
        }
    }

    /** Also after a push of the same thread, and after a first try that had read a value. */
    private static void zeroForEmpty() {
        EpochReclaim x = new EpochReclaim(8, 2, 3);
        Runs.popWhole(x, 1);
        CHECK.same("lastValue(1) of a pop of nothing", x.lastValue(1), 0);
        Runs.pushWhole(x, 1, 9);
        Runs.popWhole(x, 0);
        Runs.popWhole(x, 1);
        CHECK.same("lastResult(1)", x.lastResult(1), EpochReclaim.RES_EMPTY);
        CHECK.same("lastValue(1) of a pop of nothing", x.lastValue(1), 0);

        Runs.pushWhole(x, 0, 9);
        x.pop(1);
        x.run(1, 3);
        Runs.popWhole(x, 0);
        x.run(1, 64);
        CHECK.same("lastResult(1)", x.lastResult(1), EpochReclaim.RES_EMPTY);
        CHECK.same("lastValue(1) of a pop that came too late", x.lastValue(1), 0);
    }

    private static void zeroBeforeTheFirstEnd() {
        for (boolean pushing : new boolean[] {true, false}) {
            EpochReclaim x = new EpochReclaim(8, 2, 3);
            Runs.pushWhole(x, 1, 5);
            CHECK.same("lastValue(0) at the start", x.lastValue(0), 0);
            Runs.start(x, 0, pushing, 6);
            for (int i = 0; i < 6; i++) {
                CHECK.same("lastValue(0) in phase " + x.phase(0), x.lastValue(0), 0);
                x.step(0);
            }
            CHECK.same("lastValue(0) after UNPIN", x.lastValue(0), pushing ? 6 : 5);
        }
    }

    private static void genuineMinusOne() {
        EpochReclaim x = new EpochReclaim(8, 2, 3);
        Runs.pushWhole(x, 0, -1);
        CHECK.same("lastValue(0)", x.lastValue(0), -1);
        CHECK.same("lastResult(0)", x.lastResult(0), EpochReclaim.RES_OK);
        Runs.popWhole(x, 1);
        CHECK.same("lastValue(1)", x.lastValue(1), -1);
        CHECK.same("lastResult(1)", x.lastResult(1), EpochReclaim.RES_OK);
    }
}
