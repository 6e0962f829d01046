/** Promise 11: local. */
public final class Promise11LocalTest {
    private static final Check CHECK = new Check("promise 11");

    public static void main(String[] args) {
        CHECK.holds("what = `L_KIND` (a `KIND_` code), `L_MINE` (cell or NIL), `L_SEEN` (cell or NIL), `L_VALUE` (any "
            + "int) or `L_RESULT` (a `RES_` code).", Promise11LocalTest::eachLocal);
        CHECK.holds("It answers -1 if t is not in `0..threads-1`", Promise11LocalTest::threadOutsideItsRange);
        CHECK.holds("or what is not in 0..4", Promise11LocalTest::whatOutsideItsRange);
        CHECK.holds("a genuine value may also be -1.", Promise11LocalTest::genuineMinusOne);
        CHECK.holds("Locals keep their values after an operation ends until the next push or pop of that thread "
            + "starts.", Promise11LocalTest::keptUntilTheNextStart);
        CHECK.holds("It changes nothing.", Promise11LocalTest::changesNothing);
        CHECK.end();
    }

    private static void eachLocal() {
        EpochReclaim x = new EpochReclaim(8, 4, 3);
        CHECK.locals(x, 0, EpochReclaim.KIND_NONE, -1, -1, 0, EpochReclaim.RES_NONE);
        Runs.popWhole(x, 0);
        CHECK.locals(x, 0, EpochReclaim.KIND_POP, -1, -1, 0, EpochReclaim.RES_EMPTY);
        for (int i = 0; i < 8; i++) {
            Runs.pushWhole(x, 1, 10 + i);
            CHECK.locals(x, 1, EpochReclaim.KIND_PUSH, i, i - 1, 10 + i, EpochReclaim.RES_OK);
        }
        Runs.pushWhole(x, 2, Integer.MIN_VALUE);
        CHECK.locals(x, 2, EpochReclaim.KIND_PUSH, -1, -1, Integer.MIN_VALUE, EpochReclaim.RES_FULL);
        Runs.popWhole(x, 3);
        CHECK.locals(x, 3, EpochReclaim.KIND_POP, 7, 6, 17, EpochReclaim.RES_OK);
        CHECK.locals(x, 0, EpochReclaim.KIND_POP, -1, -1, 0, EpochReclaim.RES_EMPTY);
        CHECK.locals(x, 1, EpochReclaim.KIND_PUSH, 7, 6, 17, EpochReclaim.RES_OK);
    }

    private static void threadOutsideItsRange() {
        for (int what = 0; what <= 4; what++) {
            int asked = what;
            ThreadRange.check(CHECK, "local " + what, (x, t) -> x.local(t, asked));
        }
    }

    private static void whatOutsideItsRange() {
        for (int threads = 2; threads <= 4; threads++) {
            EpochReclaim x = ThreadRange.allPinned(threads);
            for (int t = 0; t < threads; t++) {
                for (int what : Edges.outside(0, 4)) {
                    CHECK.same("local(" + t + ", " + what + ")", x.local(t, what), -1);
                }
                for (int what = 0; what <= 4; what++) {
                    CHECK.same("local(" + t + ", " + what + ") is not -1", x.local(t, what) != -1, true);
                }
            }
            for (int what : Edges.outside(0, 4)) {
                for (int t : Edges.outside(0, threads - 1)) {
                    CHECK.same("local(" + t + ", " + what + ")", x.local(t, what), -1);
                }
            }
        }
    }

    private static void genuineMinusOne() {
        EpochReclaim x = new EpochReclaim(8, 2, 3);
        x.push(0, -1);
        CHECK.same("mine before ALLOC", x.local(0, EpochReclaim.L_MINE), -1);
        CHECK.same("value", x.local(0, EpochReclaim.L_VALUE), -1);
        x.run(0, 64);
        CHECK.same("mine", x.local(0, EpochReclaim.L_MINE), 0);
        CHECK.same("seen on an empty stack", x.local(0, EpochReclaim.L_SEEN), -1);
        CHECK.same("value", x.local(0, EpochReclaim.L_VALUE), -1);
        Runs.popWhole(x, 1);
        CHECK.same("seen of the last cell", x.local(1, EpochReclaim.L_SEEN), -1);
        CHECK.same("value", x.local(1, EpochReclaim.L_VALUE), -1);
    }

    private static void keptUntilTheNextStart() {
        EpochReclaim x = new EpochReclaim(8, 2, 3);
        Runs.pushWhole(x, 0, 5);
        Runs.pushWhole(x, 0, 6);
        Runs.popWhole(x, 1);
        for (int n = 0; n < 4; n++) {
            CHECK.locals(x, 0, EpochReclaim.KIND_PUSH, 1, 0, 6, EpochReclaim.RES_OK);
            CHECK.locals(x, 1, EpochReclaim.KIND_POP, 1, 0, 6, EpochReclaim.RES_OK);
            x.tryAdvance();
            x.step(0);
            x.run(1, 64);
        }
        x.push(1, 8);
        CHECK.locals(x, 1, EpochReclaim.KIND_PUSH, -1, -1, 8, EpochReclaim.RES_NONE);
        CHECK.locals(x, 0, EpochReclaim.KIND_PUSH, 1, 0, 6, EpochReclaim.RES_OK);
        x.run(1, 64);
        CHECK.locals(x, 0, EpochReclaim.KIND_PUSH, 1, 0, 6, EpochReclaim.RES_OK);
        x.pop(0);
        CHECK.locals(x, 0, EpochReclaim.KIND_POP, -1, -1, 0, EpochReclaim.RES_NONE);
    }

    private static void changesNothing() {
        for (int what = -1; what <= 5; what++) {
            int asked = what;
            ThreadRange.changesNothing(CHECK, "local " + what, (x, t) -> x.local(t, asked));
        }
    }
}
