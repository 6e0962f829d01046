/** Promise 3: pop starts a pop. */
public final class Promise03PopTest {
    public static void main(String[] args) {
        Check check = new Check("promise 3");
        StartChecks checks = new StartChecks(check, false);
        check.holds("`pop(t)` only starts an operation; it executes no step.", checks::executesNoStep);
        check.holds("It is refused, answering false and changing nothing, exactly as for push: t not in "
            + "`0..threads-1`", checks::threadMustBeInRange);
        check.holds("or `phase(t) != PH_IDLE`.", checks::threadMustBeIdle);
        check.holds("or `phase(t) != PH_IDLE`. [after RES_EMPTY and RES_FULL]", checks::threadMustBeIdleAfterEarlyEnd);
        check.holds("Otherwise [whatever the other threads do]", checks::otherThreadsMayBeBusy);
        check.holds("thread t gets kind = `KIND_POP`, mine = NIL, seen = NIL, value = 0, result = `RES_NONE`, phase = "
            + "`PH_PIN`, and the call answers true.", checks::threadGetsItsLocals);
        check.holds("Nothing else changes, as for push.", checks::nothingElseChanges);
        check.end();
    }
}
