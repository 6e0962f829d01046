import java.util.ArrayList;
import java.util.List;

/** Objects in states of many kinds, each made anew by its calls. */
final class Situations {
    static final class Situation {
        final String name;
        final int cells;
        final int threads;
        final int gap;
        final String[] calls;

        Situation(String name, int cells, int threads, int gap, String... calls) {
            this.name = name;
            this.cells = cells;
            this.threads = threads;
            this.gap = gap;
            this.calls = calls;
        }

        EpochReclaim make() {
            EpochReclaim x = new EpochReclaim(cells, threads, gap);
            Runs.performAll(x, calls);
            return x;
        }

        /** The same, but with as many calls of step in the place of each run. */
        EpochReclaim makeBySteps() {
            EpochReclaim x = new EpochReclaim(cells, threads, gap);
            for (String call : calls) {
                if (call.startsWith("run ")) {
                    String[] words = call.split(" ");
                    Runs.stepsUntilIdle(x, Integer.parseInt(words[1]), Integer.parseInt(words[2]));
                } else {
                    Runs.perform(x, call);
                }
            }
            return x;
        }
    }

    private Situations() {
    }

    static List<Situation> all() {
        List<Situation> all = new ArrayList<>();
        for (int threads = 2; threads <= 4; threads++) {
            all.add(new Situation("new, " + threads + " threads", 8, threads, 3));
        }
        for (int steps = 0; steps <= 6; steps++) {
            all.add(begun("push", steps));
            all.add(begun("pop", steps));
        }
        all.add(new Situation("pop of nothing before UNPIN", 8, 2, 3, "pop 1", "run 1 2"));
        all.add(new Situation("a thread behind the epoch", 9, 3, 2, "push 2 5", "step 2", "tryAdvance", "pop 0"));
        all.add(new Situation("every thread pinned in the epoch now", 31, 4, 1, "tryAdvance", "push 0 1", "run 0 3",
            "push 1 -1", "run 1 4", "pop 2", "run 2 2", "pop 3", "run 3 1"));
        all.add(full(8, "push 1 77", "run 1 2"));
        all.add(full(32, "pop 3", "run 3 64", "pop 3", "run 3 4", "push 2 -5", "step 2"));
        all.add(corrupted("top stolen from a push"));
        all.add(corrupted("a cell that links to itself, FREE and in use", "run 0 64", "pop 0", "run 0 64", "pop 0",
            "run 0 64", "tryAdvance", "pop 1", "run 1 3"));
        all.add(corrupted("a full limbo list", fullList()));
        return all;
    }

    /** Thread 0 has done that many steps on a stack of two values, thread 1 waits in the midst of a push. */
    private static Situation begun(String kind, int steps) {
        List<String> calls = new ArrayList<>(List.of("push 0 4", "run 0 64", "push 0 -1", "run 0 64", "tryAdvance",
            "push 1 6", "run 1 3", kind + (kind.equals("push") ? " 0 7" : " 0")));
        for (int i = 0; i < steps; i++) {
            calls.add("step 0");
        }
        return new Situation(kind + " after " + steps + " steps", 8, 2, 3, calls.toArray(new String[0]));
    }

    private static Situation full(int cells, String... more) {
        List<String> calls = new ArrayList<>();
        for (int i = 0; i < cells; i++) {
            calls.add("push 0 " + i);
            calls.add("run 0 64");
        }
        calls.addAll(List.of(more));
        return new Situation(cells + " cells, none FREE", cells, 4, 3, calls.toArray(new String[0]));
    }

    private static Situation corrupted(String name, String... more) {
        List<String> calls = new ArrayList<>(List.of(Runs.TOP_STOLEN));
        calls.addAll(List.of(more));
        return new Situation(name, 8, 3, 1, calls.toArray(new String[0]));
    }

    private static String[] fullList() {
        List<String> calls = new ArrayList<>(List.of("run 0 64"));
        for (int i = 0; i < EpochReclaim.LIMBO_CAP + 1; i++) {
            calls.add("pop 0");
            calls.add("run 0 64");
        }
        calls.add("pop 1");
        calls.add("run 1 4");
        return calls.toArray(new String[0]);
    }
}
