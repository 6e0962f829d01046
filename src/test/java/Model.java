import java.util.ArrayList;
import java.util.List;

/** The document written a second time, with an object for each cell and thread and nothing counted twice. */
final class Model {
    private static final class Cell {
        String state = "FREE";
        int value = 0;
        Integer next = null;
    }

    private static final class Worker {
        String next = "IDLE";
        boolean pinned = false;
        int announced = 0;
        String kind = "NONE";
        Integer mine = null;
        Integer seen = null;
        int value = 0;
        String result = "NONE";
        String lastResult = "NONE";
        int lastValue = 0;
    }

    private static final List<String> STATES = List.of("FREE", "LIVE", "RETIRED");
    private static final List<String> PHASES =
        List.of("IDLE", "PIN", "ALLOC", "READ_TOP", "LINK", "READ_CELL", "CAS", "RETIRE", "UNPIN");
    private static final List<String> RESULTS = List.of("NONE", "OK", "EMPTY", "FULL");
    private static final List<String> KINDS = List.of("NONE", "PUSH", "POP");

    private final List<Cell> heap = new ArrayList<>();
    private final List<Worker> workers = new ArrayList<>();
    private final List<List<Integer>> limbo = List.of(new ArrayList<>(), new ArrayList<>(), new ArrayList<>());
    private final int gap;
    private Integer top = null;
    private int epoch = 0;
    private int accessTraps = 0;
    private int doubleFrees = 0;
    private Integer lastTrap = null;
    private int dropped = 0;
    private int advances = 0;
    private int retires = 0;

    Model(int cells, int threads, int gap) {
        for (int c = 0; c < Math.max(8, Math.min(32, cells)); c++) {
            heap.add(new Cell());
        }
        for (int t = 0; t < Math.max(2, Math.min(4, threads)); t++) {
            workers.add(new Worker());
        }
        this.gap = Math.max(1, Math.min(3, gap));
    }

    /** What that many calls of tryAdvance on a new object lead to. */
    void startAfterAdvances(int count) {
        epoch = count;
        advances = count;
    }

    private static boolean within(int i, List<?> list) {
        return 0 <= i && i < list.size();
    }

    private static int number(Integer cell) {
        return cell == null ? -1 : cell;
    }

    private boolean idle(int t) {
        return workers.get(t).next.equals("IDLE");
    }

    /** As {@link Runs#perform}. */
    int perform(String call) {
        String[] words = call.split(" ");
        switch (words[0]) {
            case "push":
                return begin(Integer.parseInt(words[1]), "PUSH", Integer.parseInt(words[2])) ? 1 : 0;
            case "pop":
                return begin(Integer.parseInt(words[1]), "POP", 0) ? 1 : 0;
            case "step":
                return step(Integer.parseInt(words[1]));
            case "run":
                return run(Integer.parseInt(words[1]), Integer.parseInt(words[2]));
            case "tryAdvance":
                return tryAdvance() ? 1 : 0;
            default:
                throw new IllegalArgumentException(call);
        }
    }

    private boolean begin(int t, String kind, int v) {
        if (!within(t, workers) || !idle(t)) {
            return false;
        }
        Worker w = workers.get(t);
        w.kind = kind;
        w.mine = null;
        w.seen = null;
        w.value = v;
        w.result = "NONE";
        w.next = "PIN";
        return true;
    }

    private int step(int t) {
        if (!within(t, workers) || idle(t)) {
            return 0;
        }
        Worker w = workers.get(t);
        int executed = PHASES.indexOf(w.next);
        w.next = w.kind.equals("PUSH") ? pushStep(w) : popStep(w);
        return executed;
    }

    private int run(int t, int maxSteps) {
        int done = 0;
        while (within(t, workers) && !idle(t) && done < Math.max(1, Math.min(64, maxSteps))) {
            step(t);
            done++;
        }
        return done;
    }

    private String pushStep(Worker w) {
        switch (w.next) {
            case "PIN":
                w.pinned = true;
                w.announced = epoch;
                return "ALLOC";
            case "ALLOC":
                for (int c = 0; c < heap.size(); c++) {
                    Cell cell = heap.get(c);
                    if (cell.state.equals("FREE")) {
                        cell.state = "LIVE";
                        cell.value = w.value;
                        cell.next = null;
                        w.mine = c;
                        return "READ_TOP";
                    }
                }
                w.result = "FULL";
                return "UNPIN";
            case "READ_TOP":
                w.seen = top;
                return "LINK";
            case "LINK":
                access(w.mine).next = w.seen;
                return "CAS";
            case "CAS":
                if (number(top) != number(w.seen)) {
                    return "READ_TOP";
                }
                top = w.mine;
                w.result = "OK";
                return "UNPIN";
            default:
                return unpin(w);
        }
    }

    private String popStep(Worker w) {
        switch (w.next) {
            case "PIN":
                w.pinned = true;
                w.announced = epoch;
                return "READ_TOP";
            case "READ_TOP":
                w.mine = top;
                if (top != null) {
                    return "READ_CELL";
                }
                w.result = "EMPTY";
                w.value = 0;
                return "UNPIN";
            case "READ_CELL":
                Cell read = access(w.mine);
                w.seen = read.next;
                w.value = read.value;
                return "CAS";
            case "CAS":
                if (number(top) != number(w.mine)) {
                    return "READ_TOP";
                }
                top = w.seen;
                w.result = "OK";
                return "RETIRE";
            case "RETIRE":
                List<Integer> list = limbo.get(Math.floorMod(w.announced, 3));
                if (list.size() == 32) {
                    dropped++;
                } else {
                    list.add(w.mine);
                }
                if (heap.get(w.mine).state.equals("LIVE")) {
                    heap.get(w.mine).state = "RETIRED";
                }
                retires++;
                return "UNPIN";
            default:
                return unpin(w);
        }
    }

    private String unpin(Worker w) {
        w.pinned = false;
        w.lastResult = w.result;
        w.lastValue = w.value;
        return "IDLE";
    }

    private Cell access(Integer c) {
        if (heap.get(c).state.equals("FREE")) {
            accessTraps++;
            lastTrap = c;
        }
        return heap.get(c);
    }

    private boolean tryAdvance() {
        for (Worker w : workers) {
            if (w.pinned && w.announced != epoch) {
                return false;
            }
        }
        epoch = epoch + 1;
        advances++;
        List<Integer> list = limbo.get(Math.floorMod(epoch + 3 - gap, 3));
        for (Integer c : list) {
            if (heap.get(c).state.equals("FREE")) {
                doubleFrees++;
                lastTrap = c;
            }
            heap.get(c).state = "FREE";
        }
        list.clear();
        return true;
    }

    int phase(int t) {
        return within(t, workers) ? PHASES.indexOf(workers.get(t).next) : -1;
    }

    int announced(int t) {
        return within(t, workers) && workers.get(t).pinned ? workers.get(t).announced : -1;
    }

    int lastResult(int t) {
        return within(t, workers) ? RESULTS.indexOf(workers.get(t).lastResult) : -1;
    }

    int lastValue(int t) {
        return within(t, workers) ? workers.get(t).lastValue : -1;
    }

    int local(int t, int what) {
        if (!within(t, workers) || what < 0 || what > 4) {
            return -1;
        }
        Worker w = workers.get(t);
        int[] locals = {KINDS.indexOf(w.kind), number(w.mine), number(w.seen), w.value, RESULTS.indexOf(w.result)};
        return locals[what];
    }

    int top() {
        return number(top);
    }

    int cell(int c, int what) {
        if (!within(c, heap) || what < 0 || what > 2) {
            return -1;
        }
        Cell cell = heap.get(c);
        int[] fields = {STATES.indexOf(cell.state), cell.value, number(cell.next)};
        return fields[what];
    }

    int limboSize(int k) {
        return within(k, limbo) ? limbo.get(k).size() : -1;
    }

    int limboCell(int k, int i) {
        return within(k, limbo) && within(i, limbo.get(k)) ? limbo.get(k).get(i) : -1;
    }

    int counter(int what) {
        int free = 0;
        for (Cell cell : heap) {
            free += cell.state.equals("FREE") ? 1 : 0;
        }
        int[] counters = {accessTraps, doubleFrees, number(lastTrap), dropped, advances, free, retires, epoch};
        return 0 <= what && what < counters.length ? counters[what] : -1;
    }
}
