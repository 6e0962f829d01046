/** What promises 7 to 11 ask alike of a getter with a thread as its first argument. */
final class ThreadRange {
    interface Getter {
        int answer(EpochReclaim x, int t);
    }

    private ThreadRange() {
    }

    /** -1 outside of 0..threads-1, and inside an answer that is not -1: every thread is pinned in a push of 5. */
    static void check(Check check, String name, Getter getter) {
        for (int threads = 2; threads <= 4; threads++) {
            EpochReclaim x = allPinned(threads);
            for (int t : Edges.outside(0, threads - 1)) {
                check.same(name + " of thread " + t + " of " + threads, getter.answer(x, t), -1);
            }
            for (int t = 0; t < threads; t++) {
                check.same(name + " of thread " + t + " of " + threads + " is not -1", getter.answer(x, t) != -1, true);
            }
        }
    }

    static void changesNothing(Check check, String name, Getter getter) {
        for (Situations.Situation situation : Situations.all()) {
            EpochReclaim x = situation.make();
            check.changesNothing(x, name, () -> {
                for (int t = 0; t < situation.threads; t++) {
                    check.same(name + " called twice", getter.answer(x, t), getter.answer(x, t));
                }
                for (int t : Edges.outside(0, situation.threads - 1)) {
                    getter.answer(x, t);
                }
            });
        }
    }

    static EpochReclaim allPinned(int threads) {
        EpochReclaim x = new EpochReclaim(8, threads, 3);
        for (int t = 0; t < threads; t++) {
            Runs.pushWhole(x, t, 5);
            x.push(t, 5);
            x.run(t, 3);
        }
        return x;
    }
}
