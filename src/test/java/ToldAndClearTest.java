/** Promises 6 and 7: what was told is kept, each once, until clear; nothing else changes it, and clear nothing else. */
public final class ToldAndClearTest {
    private static final Checks CHECKS = new Checks();

    public static void main(String[] args) {
        RealOperations x = new RealOperations();
        x.control(0x003f);
        Checks.put(x, 1, "3fff 8000000000000000");
        Checks.put(x, 2, "4000 c000000000000000");
        Checks.put(x, 3, "0000 0000000000000001");
        Checks.put(x, 4, "7ffe 8000000000000000");
        Checks.put(x, 5, "0001 8000000000000000");
        CHECKS.same("told() at first", x.told(), 0);
        step(x, Checks.PLUS, 1, 1, 0, 0);
        step(x, Checks.BY, 1, 2, 32, 32);
        step(x, Checks.BY, 1, 2, 32, 32);
        step(x, Checks.BY, 1, 0, 4, 36);
        step(x, Checks.PLUS, 3, 0, 2 | 16 | 32, 36 | 2 | 16);
        step(x, Checks.BY, 0, 0, 1, 55);
        step(x, Checks.TIMES, 4, 4, 8 | 32, 63);
        step(x, Checks.PLUS, 1, 1, 0, 63);
        CHECKS.same("told() again", x.told(), 63);
        clearKeepsTheRest(x);
        stoppedOnesAreTold(x);
        refusedOnesAreNot(x);
        CHECKS.end();
    }

    private static void step(RealOperations x, int operation, int a, int b, int told, int toldInAll) {
        String what = "operate(" + operation + ", " + a + ", " + b + ", 7)";
        CHECKS.same(what, x.operate(operation, a, b, 7), told);
        CHECKS.same("told() after " + what, x.told(), toldInAll);
    }

    private static void clearKeepsTheRest(RealOperations x) {
        Checks.put(x, 6, Checks.UNCHANGED);
        x.clear();
        CHECKS.same("told() after clear()", x.told(), 0);
        CHECKS.same("a register after clear()", Checks.shown(x, 6), Checks.UNCHANGED);
        step(x, Checks.BY, 1, 2, 32, 32);
        CHECKS.same("1 / 3 by the control before clear()", Checks.shown(x, 7), "3ffd aaaaab0000000000");
        x.clear();
        x.clear();
        CHECKS.same("told() after clear() twice", x.told(), 0);
        step(x, Checks.PLUS, 1, 1, 0, 0);
    }

    /** What is not masked is told, too, and kept when the control changes. */
    private static void stoppedOnesAreTold(RealOperations x) {
        x.control(0x0300);
        step(x, Checks.BY, 0, 0, 1, 1);
        step(x, Checks.PLUS, 3, 0, 2, 3);
        step(x, Checks.BY, 1, 0, 4, 7);
        step(x, Checks.TIMES, 4, 4, 8, 15);
        step(x, Checks.TIMES, 5, 5, 16, 31);
        x.control(0x033f);
        x.set(0, 0, 0, 0);
        CHECKS.same("told() after control() and set()", x.told(), 31);
        x.clear();
        CHECKS.same("told() after clear()", x.told(), 0);
    }

    private static void refusedOnesAreNot(RealOperations x) {
        CHECKS.refusesIndex("operate(4, 0, 0, 8)", () -> x.operate(4, 0, 0, 8));
        CHECKS.refusesArgument("operate(7, 0, 0, 0)", () -> x.operate(7, 0, 0, 0));
        CHECKS.same("told() after refused calls", x.told(), 0);
        step(x, Checks.BY, 1, 0, 4, 4);
        CHECKS.refusesIndex("operate(4, 0, -1, 0)", () -> x.operate(4, 0, -1, 0));
        CHECKS.refusesArgument("operate(-1, 0, 0, 0)", () -> x.operate(-1, 0, 0, 0));
        CHECKS.same("told() after refused calls", x.told(), 4);
    }
}
