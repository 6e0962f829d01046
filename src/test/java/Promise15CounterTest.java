/** Promise 15: counter. */
public final class Promise15CounterTest {
    private static final Check CHECK = new Check("promise 15");

    public static void main(String[] args) {
        CHECK.holds("`counter(what)` answers counter what, one of the `C_` codes 0..7 with the meanings listed under "
            + "What it is", Promise15CounterTest::eachCounter);
        CHECK.holds("it answers -1 if what is not in 0..7.", Promise15CounterTest::whatOutsideItsRange);
        CHECK.holds("`C_LAST_TRAP_CELL` is NIL until the first trap", Promise15CounterTest::nilUntilTheFirstTrap);
        CHECK.holds("and afterwards the cell of the latest access trap or double free.",
            Promise15CounterTest::latestTrap);
        CHECK.holds("It changes nothing.", Promise15CounterTest::changesNothing);
        CHECK.end();
    }

    private static void eachCounter() {
        EpochReclaim x = Runs.twoCellLoop();
        CHECK.counters("cells 0 and 2 in a loop", x, 0, 0, -1, 0, 1, 5, 3, 1);
        Runs.popsWhole(x, 0, 36);
        CHECK.counters("after 36 pops", x, 0, 0, -1, 4, 1, 5, 39, 1);
        x.tryAdvance();
        CHECK.counters("both freed 16 times", x, 0, 30, 2, 4, 2, 7, 39, 2);
        Runs.popWhole(x, 0);
        CHECK.counters("after a pop of a FREE cell", x, 1, 30, 0, 4, 2, 7, 40, 2);
        x.tryAdvance();
        CHECK.counters("that cell freed once more", x, 1, 31, 0, 4, 3, 7, 40, 3);
    }

    private static void whatOutsideItsRange() {
        EpochReclaim x = Runs.selfLoop();
        Runs.popsWhole(x, 0, 34);
        x.tryAdvance();
        Runs.popWhole(x, 0);
        for (int what : Edges.outside(0, 7)) {
            CHECK.same("counter(" + what + ")", x.counter(what), -1);
        }
        for (int what = 0; what <= 7; what++) {
            CHECK.same("counter(" + what + ") is not -1", x.counter(what) != -1, true);
        }
    }

    private static void nilUntilTheFirstTrap() {
        EpochReclaim x = new EpochReclaim(8, 2, 1);
        CHECK.same("at the start", x.counter(EpochReclaim.C_LAST_TRAP_CELL), EpochReclaim.NIL);
        Runs.pushWhole(x, 0, 5);
        x.pop(1);
        x.run(1, 2);
        Runs.popWhole(x, 0);
        x.tryAdvance();
        CHECK.same("before the access", x.counter(EpochReclaim.C_LAST_TRAP_CELL), EpochReclaim.NIL);
        x.step(1);
        CHECK.same("after an access to cell 0", x.counter(EpochReclaim.C_LAST_TRAP_CELL), 0);

        EpochReclaim y = Runs.selfLoop();
        Runs.popsWhole(y, 0, 2);
        CHECK.same("before the double free", y.counter(EpochReclaim.C_LAST_TRAP_CELL), EpochReclaim.NIL);
        y.tryAdvance();
        CHECK.same("after a double free of cell 0", y.counter(EpochReclaim.C_LAST_TRAP_CELL), 0);
    }

    /** The latest of access trap and double free, whichever it was, gives the cell. */
    private static void latestTrap() {
        EpochReclaim x = Runs.twoCellLoop();
        Runs.popsWhole(x, 0, 4);
        x.tryAdvance();
        CHECK.same("after a double free of 2", x.counter(EpochReclaim.C_LAST_TRAP_CELL), 2);
        Runs.popWhole(x, 0);
        CHECK.same("after an access to 0", x.counter(EpochReclaim.C_LAST_TRAP_CELL), 0);
        Runs.popWhole(x, 0);
        CHECK.same("after an access to 2", x.counter(EpochReclaim.C_LAST_TRAP_CELL), 2);
        x.pop(0);
        x.run(0, 3);
        CHECK.same("after another access to 0", x.counter(EpochReclaim.C_LAST_TRAP_CELL), 0);
        x.tryAdvance();
        CHECK.same("after a double free of 0 and 2", x.counter(EpochReclaim.C_LAST_TRAP_CELL), 2);
    }

    private static void changesNothing() {
        for (Situations.Situation situation : Situations.all()) {
            EpochReclaim x = situation.make();
            CHECK.changesNothing(x, "counter, " + situation.name, () -> {
                for (int what = -1; what <= 8; what++) {
                    CHECK.same("counter called twice", x.counter(what), x.counter(what));
                }
                for (int what : Edges.outside(0, 7)) {
                    x.counter(what);
                }
            });
        }
    }
}
