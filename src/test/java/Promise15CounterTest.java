import java.util.List;

/** Promise 15: counter. */
public final class Promise15CounterTest {
    private static final Check CHECK = new Check("promise 15");

    public static void main(String[] args) {
        checkEachCounter();
        checkLatestTrap();
        checkRange();
        CHECK.end();
    }

    private static void counters(String when, EpochReclaim x, int... due) {
        for (int what = 0; what < due.length; what++) {
            CHECK.same(when + ": counter(" + what + ")", x.counter(what), due[what]);
        }
    }

    private static void checkEachCounter() {
        EpochReclaim x = Runs.twoCellLoop();
        counters("cells 0 and 2 in a loop", x, 0, 0, -1, 0, 1, 5, 3, 1);
        for (int n = 0; n < 36; n++) {
            Runs.popWhole(x, 0);
        }
        counters("after 36 pops", x, 0, 0, -1, 4, 1, 5, 39, 1);
        x.tryAdvance();
        counters("both freed 16 times", x, 0, 30, 2, 4, 2, 7, 39, 2);
        Runs.popWhole(x, 0);
        counters("after a pop of a FREE cell", x, 1, 30, 0, 4, 2, 7, 40, 2);
        x.tryAdvance();
        counters("that cell freed once more", x, 1, 31, 0, 4, 3, 7, 40, 3);
    }

    /** The latest of access trap and double free, whichever it was, gives the cell. */
    private static void checkLatestTrap() {
        EpochReclaim x = Runs.twoCellLoop();
        for (int n = 0; n < 4; n++) {
            Runs.popWhole(x, 0);
        }
        CHECK.same("before the first trap", x.counter(EpochReclaim.C_LAST_TRAP_CELL), EpochReclaim.NIL);
        x.tryAdvance();
        CHECK.same("after a double free of 2", x.counter(EpochReclaim.C_LAST_TRAP_CELL), 2);
        Runs.popWhole(x, 0);
        CHECK.same("after an access to 0", x.counter(EpochReclaim.C_LAST_TRAP_CELL), 0);
        Runs.popWhole(x, 0);
        CHECK.same("after an access to 2", x.counter(EpochReclaim.C_LAST_TRAP_CELL), 2);
        x.pop(0);
        x.run(0, 3);
        CHECK.same("after another access to 0", x.counter(EpochReclaim.C_LAST_TRAP_CELL), 0);
        x.tryAdvance();
        CHECK.same("after a double free of 0 and 2", x.counter(EpochReclaim.C_LAST_TRAP_CELL), 2);
    }

    private static void checkRange() {
        EpochReclaim x = Runs.twoCellLoop();
        List<String> before = Check.state(x);
        for (int what : Check.FAR_INTS) {
            CHECK.same("counter(" + what + ")", x.counter(what), -1);
        }
        CHECK.same("counter(8)", x.counter(8), -1);
        counters("after wrong arguments", x, 0, 0, -1, 0, 1, 5, 3, 1);
        CHECK.sameState("counter", Check.state(x), before);
    }
}
