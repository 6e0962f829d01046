import java.util.ArrayDeque;
import java.util.ArrayList;
import java.util.Deque;
import java.util.List;
import java.util.Set;
import java.util.TreeSet;

/** The first paragraph of 'What it is', sentence by sentence. */
public final class WhatItIsTest {
    private static final Check CHECK = new Check("what it is");

    public static void main(String[] args) {
        CHECK.holds("two to four stepped threads run a lock-free stack of ints over a small trapping cell heap of 8 to "
            + "32 cells. [one operation after the other]", WhatItIsTest::stackOfInts);
        CHECK.holds("lock-free [a thread that stands still holds up no other]", WhatItIsTest::noThreadHoldsUpAnother);
        CHECK.holds("Push and pop work by compare-and-swap on a shared top word", WhatItIsTest::onlyCasMovesTheTop);
        CHECK.holds("one shared action per step, so that any interleaving can be driven call by call.",
            WhatItIsTest::everyInterleavingOfTwo);
        CHECK.holds("Popped cells are not freed at once: the popping thread retires the cell into one of three limbo "
            + "lists, chosen by the epoch it announced when it pinned.", WhatItIsTest::poppedCellsWait);
        CHECK.holds("`tryAdvance()` advances the global epoch only if every pinned thread has announced the current "
            + "epoch", WhatItIsTest::advanceWaitsForPinnedThreads);
        CHECK.holds("and then frees one whole limbo list to the heap, where the lowest FREE cell is reused by the next "
            + "allocation.", WhatItIsTest::freedCellsAreReused);
        CHECK.holds("The heap keeps the value and next of freed cells but counts a trap for every access to a FREE "
            + "cell and for every double free.", WhatItIsTest::everyTrapIsCounted);
        CHECK.holds("A gap setting chooses which limbo list is freed on an advance", WhatItIsTest::gapChoosesTheList);
        CHECK.holds("gap 3 is the safe scheme", WhatItIsTest::gapThreeIsSafe);
        CHECK.holds("gaps 1 and 2 reclaim prematurely and can produce use-after-free, ABA corruption of the stack and "
            + "double frees. [use-after-free]", () -> forBothGaps(WhatItIsTest::useAfterFree));
        CHECK.holds("gaps 1 and 2 reclaim prematurely and can produce use-after-free, ABA corruption of the stack and "
            + "double frees. [ABA corruption]", () -> forBothGaps(WhatItIsTest::abaCorruption));
        CHECK.holds("gaps 1 and 2 reclaim prematurely and can produce use-after-free, ABA corruption of the stack and "
            + "double frees. [double frees]", () -> forBothGaps(WhatItIsTest::doubleFrees));
        CHECK.end();
    }

    private interface OneGap {
        void check(int gap);
    }

    private static void forBothGaps(OneGap test) {
        test.check(1);
        test.check(2);
    }

    /** The values on the stack, the top one first. */
    private static List<Integer> values(EpochReclaim x, int cells) {
        List<Integer> values = new ArrayList<>();
        for (int c = x.top(); c != EpochReclaim.NIL && values.size() < cells; c = x.cell(c, EpochReclaim.CELL_NEXT)) {
            values.add(x.cell(c, EpochReclaim.CELL_VALUE));
        }
        return values;
    }

    private static void sameValues(String when, EpochReclaim x, List<Integer> due) {
        List<Integer> got = values(x, 32);
        if (!got.equals(due)) {
            CHECK.fail(when + ": the stack holds " + got + ", due is " + due);
        }
    }

    private static void stackOfInts() {
        for (int cells : new int[] {8, 9, 20, 31, 32}) {
            for (int threads = 2; threads <= 4; threads++) {
                mixedOperations(cells, threads, new Runs.Dice(cells * 10 + threads));
            }
        }
    }

    /** Three advances before each push give every popped cell back, so that only a full stack is RES_FULL. */
    private static void mixedOperations(int cells, int threads, Runs.Dice dice) {
        EpochReclaim x = new EpochReclaim(cells, threads, 3);
        Deque<Integer> stack = new ArrayDeque<>();
        for (int i = 0; i < 600; i++) {
            int t = dice.below(threads);
            boolean filling = i / 100 % 2 == 0;
            if (dice.below(100) < (filling ? 70 : 30)) {
                int v = Edges.VALUES[dice.below(Edges.VALUES.length)];
                Runs.advances(x, 3);
                Runs.pushWhole(x, t, v);
                boolean full = stack.size() == cells;
                CHECK.same("push", x.lastResult(t), full ? EpochReclaim.RES_FULL : EpochReclaim.RES_OK);
                if (!full) {
                    stack.push(v);
                }
            } else {
                Runs.popWhole(x, t);
                CHECK.same("pop", x.lastResult(t), stack.isEmpty() ? EpochReclaim.RES_EMPTY : EpochReclaim.RES_OK);
                CHECK.same("value", x.lastValue(t), stack.isEmpty() ? 0 : stack.pop());
            }
            sameValues(cells + " cells, " + threads + " threads", x, new ArrayList<>(stack));
        }
    }

    private static void noThreadHoldsUpAnother() {
        for (boolean pushing : new boolean[] {true, false}) {
            for (int steps = 0; steps <= 6; steps++) {
                EpochReclaim x = new EpochReclaim(8, 2, 3);
                Runs.pushWhole(x, 0, 1);
                Runs.pushWhole(x, 0, 2);
                Runs.start(x, 0, pushing, 3);
                Runs.steps(x, 0, steps);
                int onTop = x.cell(x.top(), EpochReclaim.CELL_VALUE);
                x.push(1, 4);
                CHECK.same("steps of the push", x.run(1, 64), 6);
                CHECK.same("result of the push", x.lastResult(1), EpochReclaim.RES_OK);
                Runs.popWhole(x, 1);
                CHECK.same("value of the first pop", x.lastValue(1), 4);
                x.pop(1);
                CHECK.same("steps of the second pop", x.run(1, 64), 6);
                CHECK.same("value of the second pop", x.lastValue(1), onTop);
            }
        }
    }

    private static void onlyCasMovesTheTop() {
        for (int seed = 1; seed <= 60; seed++) {
            Runs.Dice dice = new Runs.Dice(seed);
            EpochReclaim x = seed % 2 == 0 ? Runs.twoCellLoop() : new EpochReclaim(8, 3, 1 + seed % 3);
            int moves = 0;
            for (int i = 0; i < 500; i++) {
                String call = dice.call(x, 3);
                int before = x.top();
                int answer = Runs.perform(x, call);
                if (x.top() != before) {
                    moves++;
                    CHECK.same("seed " + seed + ": " + call + " with answer " + answer + " moved the top",
                        call.startsWith("step") && answer == EpochReclaim.PH_CAS, true);
                }
            }
            CHECK.same("seed " + seed + ": the top was moved", moves > 0, true);
        }
    }

    /** Two operations at once have the outcome of one of them after the other, and both outcomes come about. */
    private static void everyInterleavingOfTwo() {
        for (int size = 0; size <= 2; size++) {
            for (boolean first : new boolean[] {true, false}) {
                for (boolean second : new boolean[] {true, false}) {
                    EpochReclaim x = new EpochReclaim(8, 2, 1);
                    for (int v = 1; v <= size; v++) {
                        Runs.pushWhole(x, 0, v);
                    }
                    Runs.start(x, 0, first, 10);
                    Runs.start(x, 1, second, 20);
                    Set<String> due = new TreeSet<>(List.of(oneAfterTheOther(x, 0), oneAfterTheOther(x, 1)));
                    Set<String> got = new TreeSet<>();
                    driveEveryWay(x, got);
                    if (!got.equals(due)) {
                        CHECK.fail("two threads, " + size + " values: outcomes " + got + ", due are " + due);
                    }
                }
            }
        }
    }

    private static String oneAfterTheOther(EpochReclaim begun, int first) {
        EpochReclaim x = Inside.copyOf(begun, 8, 2, 1);
        x.run(first, 64);
        x.run(1 - first, 64);
        return outcome(x);
    }

    private static void driveEveryWay(EpochReclaim x, Set<String> outcomes) {
        boolean ended = true;
        for (int t = 0; t < 2; t++) {
            if (x.phase(t) != EpochReclaim.PH_IDLE) {
                ended = false;
                EpochReclaim copy = Inside.copyOf(x, 8, 2, 1);
                copy.step(t);
                driveEveryWay(copy, outcomes);
            }
        }
        if (ended) {
            outcomes.add(outcome(x));
            CHECK.traps(x, 0, 0, EpochReclaim.NIL);
        }
    }

    private static String outcome(EpochReclaim x) {
        return x.lastResult(0) + " " + x.lastValue(0) + ", " + x.lastResult(1) + " " + x.lastValue(1) + ", "
            + values(x, 8);
    }

    private static void poppedCellsWait() {
        for (int epoch = 0; epoch <= 7; epoch++) {
            EpochReclaim x = new EpochReclaim(8, 2, 3);
            Runs.pushWhole(x, 0, 5);
            Runs.advances(x, epoch);
            x.pop(1);
            x.step(1);
            // The epoch goes on by one while the thread is pinned.
            x.tryAdvance();
            x.run(1, 64);
            CHECK.cell(x, 0, EpochReclaim.STATE_RETIRED, 5, -1);
            CHECK.same("free cells", x.counter(EpochReclaim.C_FREE_CELLS), 7);
            for (int k = 0; k < 3; k++) {
                CHECK.same("limboSize(" + k + ")", x.limboSize(k), k == epoch % 3 ? 1 : 0);
            }
            CHECK.same("limboCell", x.limboCell(epoch % 3, 0), 0);
        }
    }

    private static void advanceWaitsForPinnedThreads() {
        EpochReclaim x = new EpochReclaim(8, 4, 3);
        for (int t = 0; t < 4; t++) {
            x.push(t, t);
            x.step(t);
        }
        CHECK.same("tryAdvance with all pinned in 0", x.tryAdvance(), true);
        for (int t = 0; t < 4; t++) {
            CHECK.refused(x, "tryAdvance", 0);
            x.run(t, 64);
            x.pop(t);
            x.step(t);
        }
        CHECK.same("tryAdvance with all pinned in 1", x.tryAdvance(), true);
        CHECK.same("epoch", x.counter(EpochReclaim.C_EPOCH), 2);
    }

    private static void freedCellsAreReused() {
        EpochReclaim x = Runs.fullHeap(8, 2, 3, 0);
        Runs.popsWhole(x, 0, 5);
        x.tryAdvance();
        Runs.popsWhole(x, 1, 2);
        CHECK.limbo(x, 0, 7, 6, 5, 4, 3);
        CHECK.limbo(x, 1, 2, 1);
        Runs.advances(x, 2);
        CHECK.limbo(x, 0);
        CHECK.limbo(x, 1, 2, 1);
        for (int c = 3; c <= 7; c++) {
            Runs.pushWhole(x, 0, c);
            CHECK.same("cell taken", x.local(0, EpochReclaim.L_MINE), c);
        }
        Runs.pushWhole(x, 0, 9);
        CHECK.same("result with list 1 still waiting", x.lastResult(0), EpochReclaim.RES_FULL);
        x.tryAdvance();
        CHECK.limbo(x, 1);
        Runs.pushWhole(x, 0, 9);
        CHECK.same("cell taken", x.local(0, EpochReclaim.L_MINE), 1);
    }

    private static void everyTrapIsCounted() {
        EpochReclaim x = Runs.selfLoop();
        Runs.popWhole(x, 0);
        x.tryAdvance();
        CHECK.cell(x, 0, EpochReclaim.STATE_FREE, 30, 0);
        for (int n = 1; n <= 20; n++) {
            Runs.popWhole(x, n % 3);
            CHECK.traps(x, n, 0, 0);
            CHECK.cell(x, 0, EpochReclaim.STATE_FREE, 30, 0);
        }
        x.tryAdvance();
        CHECK.traps(x, 20, 20, 0);
        CHECK.cell(x, 0, EpochReclaim.STATE_FREE, 30, 0);
    }

    private static void gapChoosesTheList() {
        for (int gap = 1; gap <= 3; gap++) {
            EpochReclaim x = new EpochReclaim(8, 2, gap);
            for (int epoch = 0; epoch < 9; epoch++) {
                Runs.pushWhole(x, 0, epoch);
                Runs.popWhole(x, 0);
                x.tryAdvance();
                for (int k = 0; k < 3; k++) {
                    // Filled in the epoch before, and in the two before that.
                    int age = 1 + (epoch + 3 - k) % 3;
                    boolean filled = epoch + 1 - age >= 0;
                    CHECK.same("gap " + gap + ", epoch " + (epoch + 1) + ": limboSize(" + k + ")", x.limboSize(k),
                        filled && age < gap ? 1 : 0);
                }
            }
        }
    }

    /**
     * Both threads hold cell 0 when thread 0 pops it. For gap 2 thread 0 has pinned one epoch before, so that the cell
     * waits in a list that is freed one advance earlier.
     */
    private static EpochReclaim cellTakenFromUnderThreadOne(int gapFooled, int gap) {
        EpochReclaim x = new EpochReclaim(8, 2, gap);
        Runs.performAll(x, "push 0 10", "run 0 64", "pop 0", "step 0");
        Runs.advances(x, gapFooled - 1);
        Runs.performAll(x, "pop 1", "run 1 2", "run 0 64", "tryAdvance");
        return x;
    }

    private static void useAfterFree(int gap) {
        EpochReclaim x = cellTakenFromUnderThreadOne(gap, gap);
        CHECK.cell(x, 0, EpochReclaim.STATE_FREE, 10, -1);
        CHECK.step(x, 1, EpochReclaim.PH_READ_CELL, EpochReclaim.PH_CAS);
        CHECK.traps(x, 1, 0, 0);
    }

    /**
     * Thread 1 is about to swap the top from cell 1 to cell 0 when threads 0 and 2 pop both. Freed, they are taken
     * again: cell 0 by a push of 30 that has not read the top yet, cell 1 by a push of 40 that is the top alone.
     */
    private static EpochReclaim topTakenAndGivenBack(int gapFooled, int gap) {
        EpochReclaim x = new EpochReclaim(8, 3, gap);
        Runs.performAll(x, "push 0 10", "run 0 64", "push 0 20", "run 0 64", "pop 0", "step 0", "pop 2", "step 2");
        Runs.advances(x, gapFooled - 1);
        Runs.performAll(x, "pop 1", "run 1 3", "run 0 64", "run 2 64", "tryAdvance", "push 0 30", "run 0 2",
            "push 2 40", "run 2 64");
        return x;
    }

    private static void abaCorruption(int gap) {
        EpochReclaim x = topTakenAndGivenBack(gap, gap);
        sameValues("gap " + gap, x, List.of(40));
        CHECK.same("thread 0 has popped", x.lastValue(0), 20);
        CHECK.step(x, 1, EpochReclaim.PH_CAS, EpochReclaim.PH_RETIRE);
        x.run(1, 64);
        // 20 is popped a second time, 40 is lost, and 30 is on the stack before its push swapped the top.
        CHECK.same("value", x.lastValue(1), 20);
        sameValues("gap " + gap, x, List.of(30));
        CHECK.same("phase(0)", x.phase(0), EpochReclaim.PH_READ_TOP);
    }

    private static void doubleFrees(int gap) {
        EpochReclaim x = topTakenAndGivenBack(gap, gap);
        Runs.performAll(x, "run 1 64", "run 0 64");
        CHECK.cell(x, 0, EpochReclaim.STATE_LIVE, 30, 0);
        Runs.popsWhole(x, 0, 2);
        CHECK.traps(x, 0, 0, -1);
        Runs.advances(x, 3);
        CHECK.traps(x, 0, 1, 0);
    }

    /** The runs of calls that lead gaps 1 and 2 astray. */
    private static void gapThreeIsSafe() {
        for (int fooled = 1; fooled <= 2; fooled++) {
            EpochReclaim x = cellTakenFromUnderThreadOne(fooled, 3);
            CHECK.cell(x, 0, EpochReclaim.STATE_RETIRED, 10, -1);
            x.run(1, 64);
            CHECK.same("result", x.lastResult(1), EpochReclaim.RES_EMPTY);
            CHECK.traps(x, 0, 0, -1);

            EpochReclaim y = topTakenAndGivenBack(fooled, 3);
            CHECK.step(y, 1, EpochReclaim.PH_CAS, EpochReclaim.PH_READ_TOP);
            y.run(1, 64);
            CHECK.same("value", y.lastValue(1), 40);
            y.run(0, 64);
            sameValues("gap 3", y, List.of(30));
            new GapThree(CHECK).nothingLost("gap 3", y, 8);
        }
    }
}
