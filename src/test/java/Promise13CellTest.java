/** Promise 13: cell. */
public final class Promise13CellTest {
    private static final Check CHECK = new Check("promise 13");

    public static void main(String[] args) {
        CHECK.holds("with what = `CELL_STATE` its state as a `STATE_` code, with `CELL_VALUE` its value, with "
            + "`CELL_NEXT` its next (a cell number or NIL).", Promise13CellTest::eachField);
        CHECK.holds("It answers -1 if c is not in `0..cells-1`", Promise13CellTest::cellOutsideItsRange);
        CHECK.holds("or what is not in 0..2", Promise13CellTest::whatOutsideItsRange);
        CHECK.holds("a genuine value may also be -1.", Promise13CellTest::genuineMinusOne);
        CHECK.holds("A FREE cell still answers its stored value and next.", Promise13CellTest::freeCellAnswers);
        CHECK.holds("Calling `cell(c, what)` is never an access and never traps; it changes nothing.",
            Promise13CellTest::neverTraps);
        CHECK.end();
    }

    private static void eachField() {
        EpochReclaim x = new EpochReclaim(8, 2, 3);
        CHECK.cell(x, 0, EpochReclaim.STATE_FREE, 0, EpochReclaim.NIL);
        Runs.pushWhole(x, 0, 5);
        Runs.pushWhole(x, 0, Integer.MAX_VALUE);
        CHECK.cell(x, 0, EpochReclaim.STATE_LIVE, 5, EpochReclaim.NIL);
        CHECK.cell(x, 1, EpochReclaim.STATE_LIVE, Integer.MAX_VALUE, 0);
        Runs.popWhole(x, 0);
        CHECK.cell(x, 1, EpochReclaim.STATE_RETIRED, Integer.MAX_VALUE, 0);
        CHECK.cell(x, 0, EpochReclaim.STATE_LIVE, 5, EpochReclaim.NIL);
    }

    private static void cellOutsideItsRange() {
        for (int cells = 8; cells <= 32; cells++) {
            EpochReclaim x = Runs.fullHeap(cells, 2, 3, 1000);
            for (int what = 0; what <= 2; what++) {
                for (int c : Edges.outside(0, cells - 1)) {
                    CHECK.same("cell(" + c + ", " + what + ") of " + cells, x.cell(c, what), -1);
                }
            }
            for (int c = 0; c < cells; c++) {
                CHECK.cell(x, c, EpochReclaim.STATE_LIVE, 1000 + c, c - 1);
            }
        }
    }

    private static void whatOutsideItsRange() {
        EpochReclaim x = Runs.fullHeap(32, 2, 3, 1000);
        for (int what : Edges.outside(0, 2)) {
            for (int c = 0; c < 32; c++) {
                CHECK.same("cell(" + c + ", " + what + ")", x.cell(c, what), -1);
            }
            for (int c : Edges.outside(0, 31)) {
                CHECK.same("cell(" + c + ", " + what + ")", x.cell(c, what), -1);
            }
        }
        for (int c = 1; c < 32; c++) {
            CHECK.cell(x, c, EpochReclaim.STATE_LIVE, 1000 + c, c - 1);
        }
    }

    private static void genuineMinusOne() {
        EpochReclaim x = new EpochReclaim(8, 2, 3);
        CHECK.cell(x, 7, EpochReclaim.STATE_FREE, 0, -1);
        Runs.pushWhole(x, 0, -1);
        Runs.pushWhole(x, 0, -1);
        CHECK.cell(x, 0, EpochReclaim.STATE_LIVE, -1, -1);
        CHECK.cell(x, 1, EpochReclaim.STATE_LIVE, -1, 0);
    }

    private static void freeCellAnswers() {
        for (int v : Edges.VALUES) {
            EpochReclaim x = new EpochReclaim(8, 2, 3);
            Runs.pushWhole(x, 0, 4);
            Runs.pushWhole(x, 0, v);
            Runs.popWhole(x, 0);
            Runs.advances(x, 3);
            CHECK.cell(x, 1, EpochReclaim.STATE_FREE, v, 0);
        }
    }

    /** In every situation, cells that are FREE among them, and with wrong arguments too. */
    private static void neverTraps() {
        for (Situations.Situation situation : Situations.all()) {
            EpochReclaim x = situation.make();
            int traps = x.counter(EpochReclaim.C_ACCESS_TRAPS);
            CHECK.changesNothing(x, "cell, " + situation.name, () -> {
                for (int c = -1; c <= 32; c++) {
                    for (int what = -1; what <= 3; what++) {
                        CHECK.same("cell called twice", x.cell(c, what), x.cell(c, what));
                    }
                }
            });
            CHECK.same("access traps", x.counter(EpochReclaim.C_ACCESS_TRAPS), traps);
        }
    }
}
