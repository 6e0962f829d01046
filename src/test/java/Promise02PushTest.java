/** Promise 2: push starts a push. */
public final class Promise02PushTest {
    public static void main(String[] args) {
        Check check = new Check("promise 2");
        new StartChecks(check, true).checkAll();
        check.end();
    }
}
