import java.util.List;

/** Promise 14: limboSize and limboCell. */
public final class Promise14LimboTest {
    private static final Check CHECK = new Check("promise 14");

    public static void main(String[] args) {
        for (int e = 0; e < 4; e++) {
            checkOrder(e);
        }
        checkFullList();
        checkRange();
        CHECK.end();
    }

    /** Cells 0, 1, 2 are popped as 2, 1, 0 in epoch e. */
    private static void checkOrder(int e) {
        EpochReclaim x = new EpochReclaim(8, 2, 3);
        Runs.advances(x, e);
        for (int v = 0; v < 3; v++) {
            Runs.pushWhole(x, 0, v);
        }
        int k = e % 3;
        for (int n = 1; n <= 3; n++) {
            Runs.popWhole(x, 1);
            CHECK.same("limboSize(" + k + ")", x.limboSize(k), n);
            for (int i = 0; i < n; i++) {
                CHECK.same("limboCell(" + k + ", " + i + ")", x.limboCell(k, i), 2 - i);
            }
            CHECK.same("limboCell(" + k + ", " + n + ")", x.limboCell(k, n), -1);
            CHECK.same("limboSize of the next list", x.limboSize((k + 1) % 3), 0);
            CHECK.same("limboCell of the next list", x.limboCell((k + 1) % 3, 0), -1);
            CHECK.same("limboSize of the list after", x.limboSize((k + 2) % 3), 0);
        }
        Runs.advances(x, 3);
        CHECK.same("limboSize(" + k + ") freed", x.limboSize(k), 0);
        CHECK.same("limboCell(" + k + ", 0) freed", x.limboCell(k, 0), -1);
    }

    private static void checkFullList() {
        EpochReclaim x = Runs.twoCellLoop();
        for (int n = 0; n < 40; n++) {
            Runs.popWhole(x, 0);
        }
        CHECK.same("limboSize(1) of a full list", x.limboSize(1), EpochReclaim.LIMBO_CAP);
        for (int i = 0; i < EpochReclaim.LIMBO_CAP; i++) {
            CHECK.same("limboCell(1, " + i + ")", x.limboCell(1, i), i % 2 == 0 ? 0 : 2);
        }
        CHECK.same("limboCell(1, 32)", x.limboCell(1, 32), -1);
        CHECK.same("limboSize(0) beside it", x.limboSize(0), 1);
        CHECK.same("limboCell(0, 0) beside it", x.limboCell(0, 0), 1);
        CHECK.same("limboSize(2) beside it", x.limboSize(2), 0);
    }

    private static void checkRange() {
        EpochReclaim x = new EpochReclaim(8, 2, 3);
        for (int k = 0; k < 3; k++) {
            Runs.pushWhole(x, 0, k);
            Runs.popWhole(x, 0);
            if (k < 2) {
                x.tryAdvance();
            }
        }
        List<String> before = Check.state(x);
        for (int n : Check.FAR_INTS) {
            CHECK.same("limboSize(" + n + ")", x.limboSize(n), -1);
            CHECK.same("limboCell(" + n + ", 0)", x.limboCell(n, 0), -1);
            CHECK.same("limboCell(" + n + ", " + n + ")", x.limboCell(n, n), -1);
            for (int k = 0; k < 3; k++) {
                CHECK.same("limboCell(" + k + ", " + n + ")", x.limboCell(k, n), -1);
            }
        }
        CHECK.same("limboSize(3)", x.limboSize(3), -1);
        CHECK.same("limboCell(3, 0)", x.limboCell(3, 0), -1);
        for (int k = 0; k < 3; k++) {
            CHECK.same("limboSize(" + k + ")", x.limboSize(k), 1);
            CHECK.same("limboCell(" + k + ", 0)", x.limboCell(k, 0), k);
            CHECK.same("limboCell(" + k + ", 1)", x.limboCell(k, 1), -1);
            CHECK.same("limboCell(" + k + ", 32)", x.limboCell(k, 32), -1);
        }
        CHECK.sameState("limboSize and limboCell", Check.state(x), before);
    }
}
