/**
 * E is a Java int and wraps around: no call may fail there, and the limbo lists are still 0, 1 and 2. It takes the two
 * thousand million calls that lead there, some ten seconds, with the three gaps side by side.
 */
public final class WrapTest {
    private static final Check CHECK = new Check("wrap-around of the epoch");
    private static final int BEFORE = 7;

    public static void main(String[] args) throws InterruptedException {
        Pair[] pairs = new Pair[3];
        Thread[] leads = new Thread[3];
        for (int i = 0; i < 3; i++) {
            Pair pair = new Pair(CHECK, "near the wrap-around", 8, 2, i + 1);
            pairs[i] = pair;
            leads[i] = new Thread(() -> leadNear(pair));
            leads[i].start();
        }
        for (int i = 0; i < 3; i++) {
            leads[i].join();
            crossOver(pairs[i]);
        }
        CHECK.end();
    }

    private static void leadNear(Pair pair) {
        int count = Integer.MAX_VALUE - BEFORE;
        for (int i = 0; i < count; i++) {
            pair.x.tryAdvance();
        }
        pair.model.startAfterAdvances(count);
    }

    private static void crossOver(Pair pair) {
        pair.compareState();
        for (int e = 0; e < 3 * BEFORE; e++) {
            pair.perform("push 0 " + e);
            pair.perform("run 0 64");
            pair.perform("pop 0");
            pair.perform("run 0 1");
            pair.perform("push 1 " + e);
            pair.perform("tryAdvance");
            pair.perform("run 1 3");
            pair.perform("tryAdvance");
            pair.perform("run 0 64");
            pair.perform("run 1 64");
            pair.perform("pop 1");
            pair.perform("run 1 64");
        }
        CHECK.same("the epoch has wrapped around", pair.x.counter(EpochReclaim.C_EPOCH) < 0, true);
        CHECK.same("the advances have wrapped around", pair.x.counter(EpochReclaim.C_ADVANCES) < 0, true);
    }
}
