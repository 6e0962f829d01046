import java.util.ArrayList;
import java.util.List;

/** Compares answers with the ones that are due, and looks at the whole state that an object shows. */
final class Check {
    private static final int MOST_PRINTED = 20;
    static final int[] FAR_INTS = {-1, -2, -100, Integer.MIN_VALUE, 100, Integer.MAX_VALUE};

    private final String about;
    private int wrong = 0;

    Check(String about) {
        this.about = about;
    }

    void same(String call, long got, long due) {
        if (got != due) {
            fail(call + " answered " + got + ", due is " + due);
        }
    }

    void same(String call, boolean got, boolean due) {
        if (got != due) {
            fail(call + " answered " + got + ", due is " + due);
        }
    }

    void fail(String what) {
        wrong++;
        if (wrong <= MOST_PRINTED) {
            System.out.println(about + ": " + what);
        }
    }

    /** Both lists come from {@link #state}. */
    void sameState(String after, List<String> got, List<String> due) {
        for (int i = 0; i < due.size(); i++) {
            if (!got.get(i).equals(due.get(i))) {
                fail(after + ": now " + got.get(i) + ", due is " + due.get(i));
            }
        }
    }

    /** As sameState, but the rows that start with one of the given words may differ. */
    void sameStateBut(String after, List<String> got, List<String> due, String... words) {
        for (int i = 0; i < due.size(); i++) {
            if (!startsWithOne(due.get(i), words) && !got.get(i).equals(due.get(i))) {
                fail(after + ": now " + got.get(i) + ", due is " + due.get(i));
            }
        }
    }

    private static boolean startsWithOne(String row, String[] words) {
        for (String word : words) {
            if (row.startsWith(word)) {
                return true;
            }
        }
        return false;
    }

    void end() {
        if (wrong != 0) {
            System.out.println(about + ": " + wrong + " wrong");
            System.exit(1);
        }
    }

    /** One row for each getter and argument, always the same rows in the same order. */
    static List<String> state(EpochReclaim x) {
        List<String> rows = new ArrayList<>();
        for (int t = 0; t < 4; t++) {
            rows.add("phase(" + t + ") = " + x.phase(t));
            rows.add("announced(" + t + ") = " + x.announced(t));
            rows.add("lastResult(" + t + ") = " + x.lastResult(t));
            rows.add("lastValue(" + t + ") = " + x.lastValue(t));
            for (int what = 0; what < 5; what++) {
                rows.add("local(" + t + ", " + what + ") = " + x.local(t, what));
            }
        }
        rows.add("top() = " + x.top());
        for (int c = 0; c < 32; c++) {
            for (int what = 0; what < 3; what++) {
                rows.add("cell(" + c + ", " + what + ") = " + x.cell(c, what));
            }
        }
        for (int k = 0; k < 3; k++) {
            rows.add("limboSize(" + k + ") = " + x.limboSize(k));
            for (int i = 0; i < EpochReclaim.LIMBO_CAP; i++) {
                rows.add("limboCell(" + k + ", " + i + ") = " + x.limboCell(k, i));
            }
        }
        for (int what = 0; what < 8; what++) {
            rows.add("counter(" + what + ") = " + x.counter(what));
        }
        return rows;
    }
}
