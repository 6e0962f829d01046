/** Promise 12: top. */
public final class Promise12TopTest {
    private static final Check CHECK = new Check("promise 12");

    public static void main(String[] args) {
        CHECK.holds("`top()` answers the shared top: a cell number", Promise12TopTest::eachCell);
        CHECK.holds("or NIL.", Promise12TopTest::noCell);
        CHECK.holds("It changes nothing.", Promise12TopTest::changesNothing);
        CHECK.end();
    }

    /** From cell 0 to cell 31, changed by the CAS of a push and of a pop and by nothing else. */
    private static void eachCell() {
        EpochReclaim x = new EpochReclaim(32, 2, 3);
        for (int c = 0; c < 32; c++) {
            x.push(0, c);
            x.run(0, 4);
            CHECK.same("top() before CAS", x.top(), c - 1);
            x.step(0);
            CHECK.same("top() after CAS", x.top(), c);
            x.step(0);
        }
        Runs.advances(x, 4);
        CHECK.same("top() after advances", x.top(), 31);
        for (int c = 31; c >= 0; c--) {
            x.pop(1);
            x.run(1, 3);
            CHECK.same("top() before CAS of a pop", x.top(), c);
            x.step(1);
            CHECK.same("top() after CAS of a pop", x.top(), c - 1);
            x.run(1, 64);
        }
    }

    private static void noCell() {
        EpochReclaim x = new EpochReclaim(8, 2, 3);
        CHECK.same("top() at the start", x.top(), EpochReclaim.NIL);
        Runs.popWhole(x, 0);
        CHECK.same("top() after a pop of nothing", x.top(), EpochReclaim.NIL);
        Runs.pushWhole(x, 0, 5);
        CHECK.same("top() of one", x.top(), 0);
        Runs.popWhole(x, 0);
        CHECK.same("top() of an emptied stack", x.top(), EpochReclaim.NIL);
    }

    private static void changesNothing() {
        for (Situations.Situation situation : Situations.all()) {
            EpochReclaim x = situation.make();
            CHECK.changesNothing(x, "top()", () -> CHECK.same("top() called twice", x.top(), x.top()));
        }
    }
}
