import java.util.ArrayList;
import java.util.List;

/** Compares answers with the ones that are due; each test bears on one sentence of the document. */
final class Check {
    private static final int MOST_PRINTED = 10;

    private final String about;
    private int tests = 0;
    private int failedTests = 0;
    private int wrong = 0;

    Check(String about) {
        this.about = about;
    }

    /** The sentence is in the document's own words; the test makes its own objects. */
    void holds(String sentence, Runnable test) {
        tests++;
        wrong = 0;
        try {
            test.run();
        } catch (RuntimeException | Error thrown) {
            fail("threw " + thrown);
        }
        if (wrong != 0) {
            failedTests++;
            System.out.println(about + ": " + wrong + " wrong, does not hold: " + sentence);
        }
    }

    void end() {
        System.out.println(about + ": " + (tests - failedTests) + " of " + tests + " tests hold");
        if (failedTests != 0) {
            System.exit(1);
        }
    }

    void fail(String what) {
        wrong++;
        if (wrong <= MOST_PRINTED) {
            System.out.println(about + ": " + what);
        }
    }

    /** For what can only be compared while the class holds its state in a certain way, which it need not. */
    void notCompared(String what) {
        System.out.println(about + ": not compared: " + what);
    }

    void same(String call, long got, long due) {
        if (got != due) {
            fail(call + " answered " + got + ", due is " + due);
        }
    }

    void same(String call, boolean got, boolean due) {
        if (got != due) {
            fail(call + " answered " + got + ", due is " + due);
        }
    }

    /** Both lists come from {@link #state}. */
    void sameState(String after, List<String> got, List<String> due) {
        sameStateBut(after, got, due);
    }

    /** The rows that start with one of the given words may differ. */
    void sameStateBut(String after, List<String> got, List<String> due, String... words) {
        for (int i = 0; i < due.size(); i++) {
            if (!startsWithOne(due.get(i), words) && !got.get(i).equals(due.get(i))) {
                fail(after + ": now " + got.get(i) + ", due is " + due.get(i));
            }
        }
    }

    private static boolean startsWithOne(String row, String[] words) {
        for (String word : words) {
            if (row.startsWith(word)) {
                return true;
            }
        }
        return false;
    }

    /** The call is as in {@link Runs#perform}: its answer, and every getter the same before and after it. */
    void refused(EpochReclaim x, String call, int due) {
        List<String> before = state(x);
        same(call, Runs.perform(x, call), due);
        sameState("after the refused " + call, state(x), before);
    }

    void changesNothing(EpochReclaim x, String calls, Runnable made) {
        List<String> before = state(x);
        made.run();
        sameState("after " + calls, state(x), before);
    }

    void step(EpochReclaim x, int t, int executed, int next) {
        same("step(" + t + ")", x.step(t), executed);
        same("phase(" + t + ") after step " + executed, x.phase(t), next);
    }

    /** Steps, with only the rows that start with one of the given words allowed to change, and the phase. */
    void stepChanging(EpochReclaim x, int t, int executed, int next, String... words) {
        List<String> before = state(x);
        step(x, t, executed, next);
        String[] all = new String[words.length + 1];
        System.arraycopy(words, 0, all, 0, words.length);
        all[words.length] = "phase(" + t;
        sameStateBut("step " + executed + " of thread " + t, state(x), before, all);
    }

    void locals(EpochReclaim x, int t, int kind, int mine, int seen, int value, int result) {
        int[] due = {kind, mine, seen, value, result};
        for (int what = 0; what < due.length; what++) {
            same("local(" + t + ", " + what + ")", x.local(t, what), due[what]);
        }
    }

    void cell(EpochReclaim x, int c, int state, int value, int next) {
        int[] due = {state, value, next};
        for (int what = 0; what < due.length; what++) {
            same("cell(" + c + ", " + what + ")", x.cell(c, what), due[what]);
        }
    }

    void traps(EpochReclaim x, int accessTraps, int doubleFrees, int lastTrapCell) {
        same("access traps", x.counter(EpochReclaim.C_ACCESS_TRAPS), accessTraps);
        same("double frees", x.counter(EpochReclaim.C_DOUBLE_FREES), doubleFrees);
        same("last trap cell", x.counter(EpochReclaim.C_LAST_TRAP_CELL), lastTrapCell);
    }

    void limbo(EpochReclaim x, int k, int... entries) {
        same("limboSize(" + k + ")", x.limboSize(k), entries.length);
        for (int i = 0; i < entries.length; i++) {
            same("limboCell(" + k + ", " + i + ")", x.limboCell(k, i), entries[i]);
        }
    }

    void counters(String when, EpochReclaim x, int... due) {
        for (int what = 0; what < due.length; what++) {
            same(when + ": counter(" + what + ")", x.counter(what), due[what]);
        }
    }

    /** One row for each getter and argument, always the same rows in the same order. */
    static List<String> state(EpochReclaim x) {
        List<String> rows = new ArrayList<>();
        for (int t = 0; t < 4; t++) {
            rows.add("phase(" + t + ") = " + x.phase(t));
            rows.add("announced(" + t + ") = " + x.announced(t));
            rows.add("lastResult(" + t + ") = " + x.lastResult(t));
            rows.add("lastValue(" + t + ") = " + x.lastValue(t));
            for (int what = 0; what < 5; what++) {
                rows.add("local(" + t + ", " + what + ") = " + x.local(t, what));
            }
        }
        rows.add("top() = " + x.top());
        for (int c = 0; c < 32; c++) {
            for (int what = 0; what < 3; what++) {
                rows.add("cell(" + c + ", " + what + ") = " + x.cell(c, what));
            }
        }
        for (int k = 0; k < 3; k++) {
            rows.add("limboSize(" + k + ") = " + x.limboSize(k));
            for (int i = 0; i < EpochReclaim.LIMBO_CAP; i++) {
                rows.add("limboCell(" + k + ", " + i + ") = " + x.limboCell(k, i));
            }
        }
        for (int what = 0; what < 8; what++) {
            rows.add("counter(" + what + ") = " + x.counter(what));
        }
        return rows;
    }
}
