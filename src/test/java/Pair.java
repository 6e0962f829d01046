/** An object and the model, driven by the same calls: every answer and every getter is compared. */
final class Pair {
    final EpochReclaim x;
    final Model model;
    private final Check check;
    private final String name;
    private String latest = "construction";

    Pair(Check check, String name, int cells, int threads, int gap) {
        this(check, name + ", new EpochReclaim(" + cells + ", " + threads + ", " + gap + ")",
            new EpochReclaim(cells, threads, gap), new Model(cells, threads, gap));
    }

    Pair(Check check, String name, EpochReclaim x, Model model) {
        this.check = check;
        this.name = name;
        this.x = x;
        this.model = model;
    }

    /** The call is as in {@link Runs#perform}. */
    void perform(String call) {
        latest = call;
        check.same(name + ": " + call, Runs.perform(x, call), model.perform(call));
        compareState();
    }

    private void compare(String getter, int a, int b, int got, int due) {
        if (got != due) {
            check.fail(name + ", after " + latest + ": " + getter + " of " + a + ", " + b + " answered " + got
                + ", due is " + due);
        }
    }

    void compareState() {
        for (int t = -1; t <= 4; t++) {
            compare("phase", t, 0, x.phase(t), model.phase(t));
            compare("announced", t, 0, x.announced(t), model.announced(t));
            compare("lastResult", t, 0, x.lastResult(t), model.lastResult(t));
            compare("lastValue", t, 0, x.lastValue(t), model.lastValue(t));
            for (int what = -1; what <= 5; what++) {
                compare("local", t, what, x.local(t, what), model.local(t, what));
            }
        }
        compare("top", 0, 0, x.top(), model.top());
        for (int c = -1; c <= 32; c++) {
            for (int what = -1; what <= 3; what++) {
                compare("cell", c, what, x.cell(c, what), model.cell(c, what));
            }
        }
        for (int k = -1; k <= 3; k++) {
            compare("limboSize", k, 0, x.limboSize(k), model.limboSize(k));
            for (int i = -1; i <= 32; i++) {
                compare("limboCell", k, i, x.limboCell(k, i), model.limboCell(k, i));
            }
        }
        for (int what = -1; what <= 8; what++) {
            compare("counter", what, 0, x.counter(what), model.counter(what));
        }
    }
}
