/** Runs of calls that several tests start from. */
final class Runs {
    private Runs() {
    }

    static void pushWhole(EpochReclaim x, int t, int v) {
        x.push(t, v);
        x.run(t, 64);
    }

    static void popWhole(EpochReclaim x, int t) {
        x.pop(t);
        x.run(t, 64);
    }

    static void popsWhole(EpochReclaim x, int t, int count) {
        for (int i = 0; i < count; i++) {
            popWhole(x, t);
        }
    }

    static void steps(EpochReclaim x, int t, int count) {
        for (int i = 0; i < count; i++) {
            x.step(t);
        }
    }

    /** At most that many steps, and none once the thread is idle. Answers how many. */
    static int stepsUntilIdle(EpochReclaim x, int t, int most) {
        int done = 0;
        while (done < most && x.phase(t) != EpochReclaim.PH_IDLE) {
            x.step(t);
            done++;
        }
        return done;
    }

    static void advances(EpochReclaim x, int count) {
        for (int i = 0; i < count; i++) {
            x.tryAdvance();
        }
    }

    static void start(EpochReclaim x, int t, boolean pushing, int v) {
        if (pushing) {
            x.push(t, v);
        } else {
            x.pop(t);
        }
    }

    /** The phases of a push or a pop that meets no hindrance, in their order. */
    static int[] phases(boolean pushing) {
        return pushing
            ? new int[] {EpochReclaim.PH_PIN, EpochReclaim.PH_ALLOC, EpochReclaim.PH_READ_TOP, EpochReclaim.PH_LINK,
                EpochReclaim.PH_CAS, EpochReclaim.PH_UNPIN}
            : new int[] {EpochReclaim.PH_PIN, EpochReclaim.PH_READ_TOP, EpochReclaim.PH_READ_CELL, EpochReclaim.PH_CAS,
                EpochReclaim.PH_RETIRE, EpochReclaim.PH_UNPIN};
    }

    /** Values first, first + 1 and so on, until no cell is FREE; then cell c holds first + c. */
    static EpochReclaim fullHeap(int cells, int threads, int gap, int first) {
        EpochReclaim x = new EpochReclaim(cells, threads, gap);
        for (int i = 0; i < cells; i++) {
            pushWhole(x, 0, first + i);
        }
        return x;
    }

    /** The calls of topStolenFromPush, so that the model can be driven by them too. */
    static final String[] TOP_STOLEN = {
        "push 0 10", "run 0 64", "push 0 20", "run 0 64",
        "pop 1", "run 1 3",
        "pop 0", "run 0 64", "pop 0", "run 0 64",
        "tryAdvance",
        "push 0 30", "run 0 2",
        "push 2 40", "run 2 64",
        "run 1 64"
    };

    /**
     * Gap 1, 8 cells, 3 threads, E 1. Thread 1's late CAS made cell 0 the top while thread 0, announced 1, holds it
     * LIVE as mine with READ_TOP next. Limbo list 0 holds cell 1, RETIRED; the other lists are empty.
     */
    static EpochReclaim topStolenFromPush() {
        EpochReclaim x = new EpochReclaim(8, 3, 1);
        performAll(x, TOP_STOLEN);
        return x;
    }

    /** As topStolenFromPush, and then thread 0 linked cell 0 to itself: all threads idle, every pop gets 30. */
    static EpochReclaim selfLoop() {
        EpochReclaim x = topStolenFromPush();
        x.run(0, 64);
        return x;
    }

    /** As topStolenFromPush, and then cells 0 (the top) and 2 link to each other: all threads idle. */
    static EpochReclaim twoCellLoop() {
        EpochReclaim x = topStolenFromPush();
        pushWhole(x, 2, 50);
        x.run(0, 64);
        return x;
    }

    static void performAll(EpochReclaim x, String... calls) {
        for (String call : calls) {
            perform(x, call);
        }
    }

    /** The call is a method's name and its arguments; a boolean answer counts 1 or 0. */
    static int perform(EpochReclaim x, String call) {
        String[] words = call.split(" ");
        int t = words.length > 1 ? Integer.parseInt(words[1]) : 0;
        int n = words.length > 2 ? Integer.parseInt(words[2]) : 0;
        switch (words[0]) {
            case "push":
                return x.push(t, n) ? 1 : 0;
            case "pop":
                return x.pop(t) ? 1 : 0;
            case "step":
                return x.step(t);
            case "run":
                return x.run(t, n);
            case "tryAdvance":
                return x.tryAdvance() ? 1 : 0;
            default:
                throw new IllegalArgumentException(call);
        }
    }

    /** A fixed sequence of numbers, so that every run of a test makes the same calls. */
    static final class Dice {
        private long state;

        Dice(long seed) {
            state = seed;
        }

        int below(int bound) {
            state = state * 6364136223846793005L + 1442695040888963407L;
            return (int) ((state >>> 33) % bound);
        }

        /** A call that is mostly not refused: an idle thread starts an operation, another one takes a step. */
        String call(EpochReclaim x, int threads) {
            int t = below(threads);
            if (below(12) == 0) {
                return "tryAdvance";
            }
            if (x.phase(t) != EpochReclaim.PH_IDLE) {
                return "step " + t;
            }
            return below(2) == 0 ? "push " + t + " " + (below(200) - 100) : "pop " + t;
        }
    }
}
