/**
 * E is a Java int and wraps around after its greatest value. It takes the two thousand million calls that lead there,
 * some ten seconds, with the three gaps side by side; each test then goes on from a copy.
 */
public final class WrapTest {
    private static final Check CHECK = new Check("wrap-around of the epoch");
    private static final GapThree GAP = new GapThree(CHECK);
    private static final int LED_TO = Integer.MAX_VALUE - 9;
    private static final int CELLS = 8;
    private static final int THREADS = 3;
    private static final EpochReclaim[] LED = new EpochReclaim[4];

    public static void main(String[] args) throws InterruptedException {
        Thread[] leads = new Thread[4];
        for (int gap = 1; gap <= 3; gap++) {
            EpochReclaim x = new EpochReclaim(CELLS, THREADS, gap);
            LED[gap] = x;
            leads[gap] = new Thread(() -> advance(x, LED_TO));
            leads[gap].start();
        }
        for (int gap = 1; gap <= 3; gap++) {
            leads[gap].join();
        }
        CHECK.holds("All arithmetic is Java int arithmetic. [E and C_ADVANCES]", WrapTest::epochWrapsAround);
        CHECK.holds("j = (E + 3 - gap) mod 3 [a list in 0..2 for a negative E too]", WrapTest::listFreed);
        CHECK.holds("k = announced epoch mod 3. [a list in 0..2 for a negative epoch too]", WrapTest::listOfRetire);
        CHECK.holds("`announced(t)` answers the announced epoch of thread t if t is pinned [a negative one]",
            WrapTest::negativeEpochAnnounced);
        CHECK.holds("It is refused [...] if some thread is pinned with announced epoch != E. [greater than E]",
            WrapTest::refusedByAGreaterEpoch);
        CHECK.holds("With no thread pinned, tryAdvance always succeeds. [across the wrap-around]",
            WrapTest::succeedsAcross);
        CHECK.holds("No call ever fails (none throws). [across the wrap-around, against the model]",
            WrapTest::sameAsTheModel);
        CHECK.holds("With gap 3, for every sequence of calls in which E has not wrapped around",
            WrapTest::gapThreeUpToTheGreatestEpoch);
        CHECK.holds("three successive calls of `tryAdvance()` all answer true [the third makes E the greatest int]",
            WrapTest::nothingLostAtTheGreatestEpoch);
        CHECK.end();
    }

    private static void advance(EpochReclaim x, int count) {
        for (int i = 0; i < count; i++) {
            x.tryAdvance();
        }
    }

    /** A copy of the led object with that gap, at the epoch that lies so far after the greatest int. */
    private static EpochReclaim at(int gap, int afterGreatest) {
        EpochReclaim x = Inside.copyOf(LED[gap], CELLS, THREADS, gap);
        advance(x, Integer.MAX_VALUE - LED_TO + afterGreatest);
        return x;
    }

    private static void epochWrapsAround() {
        for (int gap = 1; gap <= 3; gap++) {
            EpochReclaim x = at(gap, 0);
            CHECK.same("E", x.counter(EpochReclaim.C_EPOCH), Integer.MAX_VALUE);
            CHECK.same("advances", x.counter(EpochReclaim.C_ADVANCES), Integer.MAX_VALUE);
            CHECK.same("tryAdvance", x.tryAdvance(), true);
            CHECK.same("E", x.counter(EpochReclaim.C_EPOCH), Integer.MIN_VALUE);
            CHECK.same("advances", x.counter(EpochReclaim.C_ADVANCES), Integer.MIN_VALUE);
            CHECK.same("tryAdvance", x.tryAdvance(), true);
            CHECK.same("E", x.counter(EpochReclaim.C_EPOCH), Integer.MIN_VALUE + 1);
            CHECK.same("advances", x.counter(EpochReclaim.C_ADVANCES), Integer.MIN_VALUE + 1);
        }
    }

    /** Before each advance every list that can have an entry has one; the advance empties list j alone. */
    private static void listFreed() {
        for (int gap = 1; gap <= 3; gap++) {
            EpochReclaim x = at(gap, -6);
            int freed = 0;
            for (int n = 0; n < 14; n++) {
                Runs.pushWhole(x, 0, n);
                Runs.popWhole(x, 0);
                int[] sizes = {x.limboSize(0), x.limboSize(1), x.limboSize(2)};
                CHECK.same("tryAdvance", x.tryAdvance(), true);
                int epoch = x.counter(EpochReclaim.C_EPOCH);
                int j = Math.floorMod(epoch + 3 - gap, 3);
                for (int k = 0; k < 3; k++) {
                    CHECK.same("gap " + gap + ", E " + epoch + ": limboSize(" + k + ")", x.limboSize(k),
                        k == j ? 0 : sizes[k]);
                }
                freed += epoch < 0 && sizes[j] > 0 ? 1 : 0;
            }
            CHECK.same("gap " + gap + ": lists with entries were freed after the wrap-around", freed > 0, true);
        }
    }

    private static void listOfRetire() {
        for (int after = -3; after <= 6; after++) {
            EpochReclaim x = at(3, after);
            Runs.pushWhole(x, 0, 5);
            Runs.popWhole(x, 1);
            int k = Math.floorMod(Integer.MAX_VALUE + after, 3);
            CHECK.limbo(x, k, 0);
            CHECK.limbo(x, (k + 1) % 3);
            CHECK.limbo(x, (k + 2) % 3);
            CHECK.same("state", x.cell(0, EpochReclaim.CELL_STATE), EpochReclaim.STATE_RETIRED);
        }
    }

    private static void negativeEpochAnnounced() {
        EpochReclaim x = at(3, 0);
        x.push(0, 5);
        x.step(0);
        CHECK.same("announced(0)", x.announced(0), Integer.MAX_VALUE);
        x.run(0, 64);
        x.tryAdvance();
        x.push(0, 5);
        x.step(0);
        CHECK.same("announced(0)", x.announced(0), Integer.MIN_VALUE);
        x.run(0, 64);
        CHECK.same("announced(0)", x.announced(0), -1);
    }

    /** The thread has announced the greatest int and E is the least one. */
    private static void refusedByAGreaterEpoch() {
        for (int gap = 1; gap <= 3; gap++) {
            EpochReclaim x = at(gap, 0);
            x.push(2, 5);
            x.step(2);
            CHECK.same("tryAdvance", x.tryAdvance(), true);
            CHECK.same("E", x.counter(EpochReclaim.C_EPOCH), Integer.MIN_VALUE);
            CHECK.refused(x, "tryAdvance", 0);
            x.run(2, 64);
            CHECK.same("tryAdvance", x.tryAdvance(), true);
        }
    }

    private static void succeedsAcross() {
        for (int gap = 1; gap <= 3; gap++) {
            EpochReclaim x = at(gap, -4);
            Runs.pushWhole(x, 0, 5);
            x.pop(1);
            for (int n = 0; n < 9; n++) {
                CHECK.same("tryAdvance", x.tryAdvance(), true);
            }
        }
    }

    private static void sameAsTheModel() {
        for (int seed = 1; seed <= 60; seed++) {
            int gap = 1 + seed % 3;
            Model model = new Model(CELLS, THREADS, gap);
            model.startAfterAdvances(LED_TO);
            EpochReclaim x = Inside.copyOf(LED[gap], CELLS, THREADS, gap);
            Pair pair = new Pair(CHECK, "near the wrap-around, gap " + gap + ", seed " + seed, x, model);
            Runs.Dice dice = new Runs.Dice(seed);
            for (int call = 0; call < 400; call++) {
                pair.perform(dice.call(x, THREADS));
            }
        }
    }

    /** Long runs that are stopped before E would wrap around. */
    private static void gapThreeUpToTheGreatestEpoch() {
        int reached = 0;
        for (int seed = 1; seed <= 200; seed++) {
            Runs.Dice dice = new Runs.Dice(seed);
            EpochReclaim x = Inside.copyOf(LED[3], CELLS, THREADS, 3);
            for (int call = 0; call < 300; call++) {
                String next = dice.call(x, THREADS);
                if (!next.equals("tryAdvance") || x.counter(EpochReclaim.C_EPOCH) < Integer.MAX_VALUE) {
                    Runs.perform(x, next);
                }
                GAP.safe("seed " + seed, x);
            }
            reached += x.counter(EpochReclaim.C_EPOCH) == Integer.MAX_VALUE ? 1 : 0;
        }
        CHECK.same("many runs came to the greatest epoch", reached > 50, true);
    }

    private static void nothingLostAtTheGreatestEpoch() {
        for (int before = 3; before <= 6; before++) {
            for (int kept = 0; kept <= CELLS; kept++) {
                EpochReclaim x = at(3, -before);
                for (int i = 0; i < CELLS; i++) {
                    Runs.pushWhole(x, i % THREADS, i);
                }
                Runs.popsWhole(x, 0, CELLS - kept);
                CHECK.same("length of the chain", GAP.nothingLost(before + " epochs before", x, CELLS), kept);
                CHECK.same("E", x.counter(EpochReclaim.C_EPOCH), Integer.MAX_VALUE - before + 3);
            }
        }
    }
}
