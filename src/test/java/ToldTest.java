/** Promise 6: what operations told is kept, each once. */
public final class ToldTest extends Sentences {
    public static void main(String[] args) {
        new ToldTest().runAlone();
    }

    @Override
    void run() {
        upToNow();
        onlyByOperations();
        eachOnce();
        sum();
    }

    private void step(RealOperations x, int operation, int a, int b, int told, int toldInAll) {
        String what = "operate(" + operation + ", " + a + ", " + b + ", 7)";
        same(what, x.operate(operation, a, b, 7), told);
        same("told() after " + what, x.told(), toldInAll);
        same("told() again after " + what, x.told(), toldInAll);
    }

    private void upToNow() {
        sentence(PROMISE_6, "All that was told up to now");
        same("told() of a new object", new RealOperations().told(), 0);
        RealOperations x = readyToTell(0x003f);
        step(x, PLUS, 1, 1, 0, 0);
        step(x, BY, 1, 2, LOSS, LOSS);
        step(x, BY, 1, 0, DIVISION, LOSS | DIVISION);
        // What tells nothing, or less, takes nothing away.
        step(x, PLUS, 1, 1, 0, LOSS | DIVISION);
        step(x, BY, 1, 2, LOSS, LOSS | DIVISION);
        step(x, BY, 0, 0, INVALID, LOSS | DIVISION | INVALID);
        // Also what is not masked, and it is kept when the control changes.
        RealOperations y = readyToTell(0x0300);
        step(y, BY, 0, 0, INVALID, 1);
        step(y, PLUS, 3, 0, DENORMAL, 3);
        step(y, BY, 1, 0, DIVISION, 7);
        step(y, TIMES, 4, 4, OVER, 15);
        step(y, TIMES, 5, 5, UNDER, 31);
        step(y, BY, 1, 2, LOSS, 63);
        y.control(0x033f);
        same("told() after control()", y.told(), 63);
    }

    private void onlyByOperations() {
        sentence(PROMISE_6, "by operations");
        RealOperations x = readyToTell(0x003f);
        for (String real : new String[] {NO_NUMBER, SMALL, INFINITE, UNNORMAL_ONE, GREATEST}) {
            put(x, 0, real);
            x.part(0, 1);
            x.control(0x003f);
            same("told() after set(), part() and control()", x.told(), 0);
        }
        put(x, 0, ZERO);
        refusesIndex("operate(4, 0, 0, 8)", () -> x.operate(BY, 0, 0, 8));
        refusesIndex("operate(6, 3, 8, 0)", () -> x.operate(ROOT, 3, 8, 0));
        refusesArgument("operate(7, 0, 0, 0)", () -> x.operate(7, 0, 0, 0));
        refusesArgument("set(0, 0x10000, 0, 0)", () -> x.set(0, 0x10000, 0, 0));
        refusesArgument("part(0, 3)", () -> x.part(0, 3));
        refusesArgument("control(0x10000)", () -> x.control(0x10000));
        same("told() after refused calls", x.told(), 0);
        step(x, BY, 1, 0, DIVISION, DIVISION);
        refusesIndex("operate(4, 0, -1, 0)", () -> x.operate(BY, 0, -1, 0));
        refusesArgument("operate(-1, 0, 0, 0)", () -> x.operate(-1, 0, 0, 0));
        put(x, 0, ONE);
        x.part(0, 1);
        same("told() after refused calls, set() and part()", x.told(), DIVISION);
    }

    private void eachOnce() {
        sentence(PROMISE_6, ", each once");
        RealOperations x = readyToTell(0x003f);
        step(x, BY, 1, 2, 32, 32);
        step(x, BY, 1, 2, 32, 32);
        step(x, BY, 0, 0, 1, 33);
        step(x, BY, 0, 0, 1, 33);
        step(x, BY, 1, 0, 4, 37);
        step(x, BY, 1, 0, 4, 37);
        step(x, TIMES, 4, 4, 8 + 32, 45);
        step(x, TIMES, 4, 4, 8 + 32, 45);
        step(x, TIMES, 5, 5, 16 + 32, 61);
        step(x, TIMES, 5, 5, 16 + 32, 61);
        step(x, TIMES, 3, 3, 2 + 16 + 32, 63);
        step(x, TIMES, 3, 3, 2 + 16 + 32, 63);
    }

    private void sum() {
        sentence(PROMISE_6, "(a sum of what is named above).");
        // Each alone, in the order of its number.
        RealOperations x = readyToTell(0x0307);
        step(x, BY, 0, 0, 1, 1);
        step(x, BY, 0, 3, 2, 1 + 2);
        step(x, BY, 1, 0, 4, 1 + 2 + 4);
        step(x, PLUS, 4, 4, 8, 1 + 2 + 4 + 8);
        step(x, TIMES, 5, 5, 16, 1 + 2 + 4 + 8 + 16);
        step(x, BY, 1, 2, 32, 1 + 2 + 4 + 8 + 16 + 32);
        // And with others left out.
        RealOperations y = readyToTell(0x0307);
        step(y, BY, 1, 2, 32, 32);
        step(y, BY, 0, 3, 2, 34);
        step(y, PLUS, 4, 4, 8, 42);
    }
}
