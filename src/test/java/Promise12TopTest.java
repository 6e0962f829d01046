import java.util.List;

/** Promise 12: top. */
public final class Promise12TopTest {
    private static final Check CHECK = new Check("promise 12");

    public static void main(String[] args) {
        EpochReclaim x = new EpochReclaim(32, 2, 3);
        CHECK.same("top() at the start", x.top(), EpochReclaim.NIL);
        for (int c = 0; c < 32; c++) {
            x.push(0, c);
            x.run(0, 4);
            CHECK.same("top() before CAS", x.top(), c - 1);
            x.step(0);
            CHECK.same("top() after CAS", x.top(), c);
            x.step(0);
        }
        for (int c = 31; c >= 0; c--) {
            x.pop(1);
            x.run(1, 3);
            CHECK.same("top() before CAS of a pop", x.top(), c);
            List<String> before = Check.state(x);
            x.top();
            CHECK.sameState("top()", Check.state(x), before);
            x.step(1);
            CHECK.same("top() after CAS of a pop", x.top(), c - 1);
            x.run(1, 64);
        }
        CHECK.end();
    }
}
