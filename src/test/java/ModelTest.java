/** Many fixed runs of mixed calls, right and wrong ones, against the model: every answer and every getter. */
public final class ModelTest {
    private static final Check CHECK = new Check("against the model");
    private static final int RUNS = 2000;
    private static final int CALLS = 400;

    private final Runs.Dice dice;
    private final int threads;
    private final int advanceWeight;
    private final int pushWeight;
    private final Pair pair;

    private ModelTest(int seed, int cells, int threads, int gap) {
        dice = new Runs.Dice(seed);
        this.threads = threads;
        // Few advances fill the limbo lists, many free the cells early: there are runs of both kinds.
        advanceWeight = 1 + dice.below(20);
        pushWeight = 20 + dice.below(50);
        pair = new Pair(CHECK, "seed " + seed, cells, threads, gap);
        pair.compareState();
    }

    public static void main(String[] args) {
        CHECK.holds("all promises, as the model has them", ModelTest::runAll);
        CHECK.end();
    }

    private static void runAll() {
        long[] reached = new long[8];
        for (int seed = 1; seed <= RUNS; seed++) {
            ModelTest test = seed % 2 == 0 ? fresh(seed) : corrupted(seed);
            for (int i = 0; i < CALLS; i++) {
                test.pair.perform(test.nextCall());
            }
            for (int what = 0; what < reached.length; what++) {
                reached[what] += Math.max(0, test.pair.x.counter(what));
            }
        }
        // The runs are of use only while they come by every kind of fault.
        CHECK.same("access traps were reached", reached[EpochReclaim.C_ACCESS_TRAPS] > 1000, true);
        CHECK.same("double frees were reached", reached[EpochReclaim.C_DOUBLE_FREES] > 1000, true);
        CHECK.same("dropped retires were reached", reached[EpochReclaim.C_DROPPED] > 100, true);
    }

    private static ModelTest fresh(int seed) {
        Runs.Dice dice = new Runs.Dice(-seed);
        int cells = 6 + dice.below(dice.below(2) == 0 ? 5 : 29);
        return new ModelTest(seed, cells, 2 + dice.below(3), dice.below(5));
    }

    /** Calls at random hardly ever make the stack run in a circle, so these runs begin with one that soon does. */
    private static ModelTest corrupted(int seed) {
        ModelTest test = new ModelTest(seed, 8, 3, 1);
        for (String call : Runs.TOP_STOLEN) {
            test.pair.perform(call);
        }
        return test;
    }

    private String nextCall() {
        int t = dice.below(40) == 0 ? farInt() : dice.below(threads);
        boolean idle = pair.x.phase(t) == EpochReclaim.PH_IDLE;
        boolean refused = dice.below(30) == 0;
        if (dice.below(100) < advanceWeight) {
            return "tryAdvance";
        }
        if (idle != refused) {
            return dice.below(100) < pushWeight ? "push " + t + " " + (dice.below(200) - 100) : "pop " + t;
        }
        if (dice.below(3) == 0) {
            return "step " + t;
        }
        return "run " + t + " " + (dice.below(10) == 0 ? farInt() : dice.below(8));
    }

    private int farInt() {
        int[] far = Edges.outside(0, threads - 1);
        return far[dice.below(far.length)];
    }
}
