/** The general rules of 'What it is', each in states of many kinds; WrapTest has the rule on int arithmetic too. */
public final class GeneralRulesTest {
    private static final Check CHECK = new Check("general rules");
    private static final int[] EDGES = {Integer.MIN_VALUE, -65, -1, 0, 1, 2, 3, 4, 5, 7, 8, 9, 31, 32, 33, 63, 64, 65,
        256, Integer.MAX_VALUE};

    public static void main(String[] args) {
        CHECK.holds("`NIL = -1` means no cell.", GeneralRulesTest::nilMeansNoCell);
        CHECK.holds("Every getter answers -1 for an argument outside its stated range.",
            GeneralRulesTest::gettersOutsideTheirRange);
        CHECK.holds("A refused call answers as stated and changes nothing. [the thread is none]",
            GeneralRulesTest::refusedForTheThread);
        CHECK.holds("A refused call answers as stated and changes nothing. [the thread is busy, or idle]",
            GeneralRulesTest::refusedForThePhase);
        CHECK.holds("A refused call answers as stated and changes nothing. [tryAdvance]",
            GeneralRulesTest::refusedAdvance);
        CHECK.holds("No call ever fails (none throws).", GeneralRulesTest::noCallThrows);
        CHECK.holds("All arithmetic is Java int arithmetic. [the counters that rise]",
            GeneralRulesTest::countersWrapAround);
        CHECK.end();
    }

    private static void nilMeansNoCell() {
        CHECK.same("NIL", EpochReclaim.NIL, -1);
        EpochReclaim x = new EpochReclaim(8, 2, 3);
        CHECK.same("top() of an empty stack", x.top(), -1);
        Runs.pushWhole(x, 0, 5);
        CHECK.same("next of the lowest cell", x.cell(0, EpochReclaim.CELL_NEXT), -1);
        CHECK.same("seen of a push on an empty stack", x.local(0, EpochReclaim.L_SEEN), -1);
        CHECK.same("mine of a thread without a cell", x.local(1, EpochReclaim.L_MINE), -1);
        CHECK.same("last trap cell without a trap", x.counter(EpochReclaim.C_LAST_TRAP_CELL), -1);
    }

    private static void gettersOutsideTheirRange() {
        for (Situations.Situation situation : Situations.all()) {
            EpochReclaim x = situation.make();
            CHECK.changesNothing(x, "getters outside their range, " + situation.name, () -> {
                threadGetters(x, situation);
                cellGetter(x, situation);
                limboGetters(x, situation);
                for (int what : Edges.outside(0, 7)) {
                    CHECK.same(situation.name + ": counter(" + what + ")", x.counter(what), -1);
                }
            });
        }
    }

    private static void threadGetters(EpochReclaim x, Situations.Situation situation) {
        for (int t : Edges.outside(0, situation.threads - 1)) {
            CHECK.same(situation.name + ": phase(" + t + ")", x.phase(t), -1);
            CHECK.same(situation.name + ": announced(" + t + ")", x.announced(t), -1);
            CHECK.same(situation.name + ": lastResult(" + t + ")", x.lastResult(t), -1);
            CHECK.same(situation.name + ": lastValue(" + t + ")", x.lastValue(t), -1);
            for (int what = 0; what <= 4; what++) {
                CHECK.same(situation.name + ": local(" + t + ", " + what + ")", x.local(t, what), -1);
            }
            for (int what : Edges.outside(0, 4)) {
                CHECK.same(situation.name + ": local(" + t + ", " + what + ")", x.local(t, what), -1);
            }
        }
        for (int t = 0; t < situation.threads; t++) {
            for (int what : Edges.outside(0, 4)) {
                CHECK.same(situation.name + ": local(" + t + ", " + what + ")", x.local(t, what), -1);
            }
        }
    }

    private static void cellGetter(EpochReclaim x, Situations.Situation situation) {
        for (int c : Edges.outside(0, situation.cells - 1)) {
            for (int what = 0; what <= 2; what++) {
                CHECK.same(situation.name + ": cell(" + c + ", " + what + ")", x.cell(c, what), -1);
            }
            for (int what : Edges.outside(0, 2)) {
                CHECK.same(situation.name + ": cell(" + c + ", " + what + ")", x.cell(c, what), -1);
            }
        }
        for (int c = 0; c < situation.cells; c++) {
            for (int what : Edges.outside(0, 2)) {
                CHECK.same(situation.name + ": cell(" + c + ", " + what + ")", x.cell(c, what), -1);
            }
        }
    }

    private static void limboGetters(EpochReclaim x, Situations.Situation situation) {
        for (int k : Edges.outside(0, 2)) {
            CHECK.same(situation.name + ": limboSize(" + k + ")", x.limboSize(k), -1);
            for (int i : EDGES) {
                CHECK.same(situation.name + ": limboCell(" + k + ", " + i + ")", x.limboCell(k, i), -1);
            }
        }
        for (int k = 0; k <= 2; k++) {
            for (int i : Edges.outside(0, x.limboSize(k) - 1)) {
                CHECK.same(situation.name + ": limboCell(" + k + ", " + i + ")", x.limboCell(k, i), -1);
            }
        }
    }

    private static void refusedForTheThread() {
        for (Situations.Situation situation : Situations.all()) {
            EpochReclaim x = situation.make();
            for (int t : Edges.outside(0, situation.threads - 1)) {
                CHECK.refused(x, "push " + t + " 7", 0);
                CHECK.refused(x, "pop " + t, 0);
                CHECK.refused(x, "step " + t, EpochReclaim.PH_IDLE);
                CHECK.refused(x, "run " + t + " 64", 0);
            }
        }
    }

    private static void refusedForThePhase() {
        for (Situations.Situation situation : Situations.all()) {
            EpochReclaim x = situation.make();
            for (int t = 0; t < situation.threads; t++) {
                if (x.phase(t) == EpochReclaim.PH_IDLE) {
                    CHECK.refused(x, "step " + t, EpochReclaim.PH_IDLE);
                    CHECK.refused(x, "run " + t + " 64", 0);
                } else {
                    CHECK.refused(x, "push " + t + " 7", 0);
                    CHECK.refused(x, "pop " + t, 0);
                }
            }
        }
    }

    private static void refusedAdvance() {
        int refusals = 0;
        for (Situations.Situation situation : Situations.all()) {
            EpochReclaim x = situation.make();
            // After the first advance every pinned thread lies behind.
            x.tryAdvance();
            boolean somePinned = false;
            for (int t = 0; t < situation.threads; t++) {
                somePinned |= x.announced(t) != -1;
            }
            if (somePinned) {
                CHECK.refused(x, "tryAdvance", 0);
                CHECK.refused(x, "tryAdvance", 0);
                refusals++;
            }
        }
        CHECK.same("many situations refuse it", refusals > 10, true);
    }

    /** Each pair of edges on an object of its own, and then all of them on one. */
    private static void noCallThrows() {
        for (Situations.Situation situation : Situations.all()) {
            EpochReclaim one = situation.make();
            for (int a : EDGES) {
                for (int b : EDGES) {
                    callEverything(situation.make(), a, b);
                    callEverything(one, a, b);
                }
            }
        }
        for (int a : EDGES) {
            for (int b : EDGES) {
                callEverything(new EpochReclaim(a, b, a), a, b);
                callEverything(new EpochReclaim(b, b, a), b, a);
            }
        }
    }

    private static void callEverything(EpochReclaim x, int a, int b) {
        x.push(a, b);
        x.step(a);
        x.run(a, b);
        x.tryAdvance();
        x.pop(a);
        x.run(a, b);
        x.step(b);
        x.tryAdvance();
        x.phase(a);
        x.announced(a);
        x.lastResult(a);
        x.lastValue(a);
        x.local(a, b);
        x.top();
        x.cell(a, b);
        x.limboSize(a);
        x.limboCell(a, b);
        x.counter(a);
    }

    /** Each pop of the FREE cell that links to itself raises three counters; with a full list the retire is dropped. */
    private static void countersWrapAround() {
        EpochReclaim x = Runs.selfLoop();
        Runs.popWhole(x, 0);
        x.tryAdvance();
        Runs.popsWhole(x, 0, EpochReclaim.LIMBO_CAP);
        int[] raised = {EpochReclaim.C_ACCESS_TRAPS, EpochReclaim.C_DROPPED, EpochReclaim.C_RETIRES};
        for (int what : raised) {
            if (Inside.setCounter(x, what, Integer.MAX_VALUE)) {
                Runs.popWhole(x, 0);
                CHECK.same("counter(" + what + ") after the greatest int", x.counter(what), Integer.MIN_VALUE);
            } else {
                CHECK.notCompared("counter(" + what + ") after the greatest int");
            }
        }
        if (Inside.setCounter(x, EpochReclaim.C_DOUBLE_FREES, Integer.MAX_VALUE - 1)) {
            x.tryAdvance();
            CHECK.same("double frees after the greatest int", x.counter(EpochReclaim.C_DOUBLE_FREES),
                Integer.MAX_VALUE - 1 + EpochReclaim.LIMBO_CAP);
        } else {
            CHECK.notCompared("double frees after the greatest int");
        }
    }
}
