import java.util.List;

/** Promise 13: cell. */
public final class Promise13CellTest {
    private static final Check CHECK = new Check("promise 13");

    public static void main(String[] args) {
        checkFreeCellKeepsContents();
        for (int cells = 8; cells <= 32; cells++) {
            checkRange(cells);
        }
        CHECK.end();
    }

    private static void cell(EpochReclaim x, int c, int... due) {
        for (int what = 0; what < due.length; what++) {
            CHECK.same("cell(" + c + ", " + what + ")", x.cell(c, what), due[what]);
        }
    }

    private static void checkFreeCellKeepsContents() {
        EpochReclaim x = new EpochReclaim(8, 2, 3);
        Runs.pushWhole(x, 0, -1);
        Runs.pushWhole(x, 0, Integer.MIN_VALUE);
        cell(x, 0, 1, -1, -1);
        cell(x, 1, 1, Integer.MIN_VALUE, 0);
        Runs.popWhole(x, 0);
        cell(x, 1, 2, Integer.MIN_VALUE, 0);
        Runs.advances(x, 3);
        List<String> before = Check.state(x);
        cell(x, 1, 0, Integer.MIN_VALUE, 0);
        CHECK.sameState("cell of a FREE cell", Check.state(x), before);
        CHECK.same("access traps", x.counter(EpochReclaim.C_ACCESS_TRAPS), 0);
        CHECK.same("last trap cell", x.counter(EpochReclaim.C_LAST_TRAP_CELL), EpochReclaim.NIL);
        x.push(0, 3);
        x.run(0, 2);
        cell(x, 1, 1, 3, -1);
    }

    private static void checkRange(int cells) {
        EpochReclaim x = new EpochReclaim(cells, 2, 3);
        for (int v = 0; v < cells; v++) {
            Runs.pushWhole(x, 0, 1000 + v);
        }
        List<String> before = Check.state(x);
        for (int what = 0; what < 3; what++) {
            for (int c : Check.FAR_INTS) {
                CHECK.same("cell(" + c + ", " + what + ")", x.cell(c, what), -1);
            }
            CHECK.same("cell(cells, " + what + ")", x.cell(cells, what), -1);
        }
        for (int what : Check.FAR_INTS) {
            CHECK.same("cell(0, " + what + ")", x.cell(0, what), -1);
            CHECK.same("cell(-1, " + what + ")", x.cell(-1, what), -1);
        }
        CHECK.same("cell(0, 3)", x.cell(0, 3), -1);
        for (int c = 0; c < cells; c++) {
            cell(x, c, 1, 1000 + c, c - 1);
        }
        CHECK.sameState("cell", Check.state(x), before);
    }
}
