/** Promise 3: pop starts a pop. */
public final class Promise03PopTest {
    public static void main(String[] args) {
        Check check = new Check("promise 3");
        new StartChecks(check, false).checkAll();
        check.end();
    }
}
