/** Promise 2: push starts a push. */
public final class Promise02PushTest {
    public static void main(String[] args) {
        Check check = new Check("promise 2");
        StartChecks checks = new StartChecks(check, true);
        check.holds("`push(t, v)` only starts an operation; it executes no step.", checks::executesNoStep);
        check.holds("It is refused, answering false and changing nothing, if t is not in `0..threads-1`",
            checks::threadMustBeInRange);
        check.holds("or `phase(t) != PH_IDLE`.", checks::threadMustBeIdle);
        check.holds("or `phase(t) != PH_IDLE`. [after RES_EMPTY and RES_FULL]", checks::threadMustBeIdleAfterEarlyEnd);
        check.holds("Otherwise [whatever the other threads do]", checks::otherThreadsMayBeBusy);
        check.holds("thread t gets kind = `KIND_PUSH`, mine = NIL, seen = NIL, value = v (any int, including negative "
            + "ones and -1), result = `RES_NONE`, phase = `PH_PIN`, and the call answers true.",
            checks::threadGetsItsLocals);
        check.holds("The pinned flag, announced epoch, lastResult and lastValue of t are not changed, nor is anything "
            + "of other threads, the heap, top, E, the limbo lists or the counters.", checks::nothingElseChanges);
        check.end();
    }
}
