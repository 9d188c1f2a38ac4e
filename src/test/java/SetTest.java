/** Promise 3: a register is what was set, whatever its kind, and wrong calls are refused. */
public final class SetTest extends Sentences {
    public static void main(String[] args) {
        new SetTest().runAlone();
    }

    @Override
    void run() {
        signAndPower();
        fraction();
        nothingElseChanges();
        noSuchRegister();
        longTop();
    }

    private void signAndPower() {
        sentence(PROMISE_3, "A register's sign and power (top, 16 bits, the sign highest)");
        RealOperations x = new RealOperations();
        for (int bit = 0; bit < 16; bit++) {
            x.set(bit % 8, 1 << bit, 0, 0);
            same("top with bit " + bit, x.part(bit % 8, 0), 1 << bit);
        }
        for (int top : new int[] {0, 0x7fff, 0x8000, 0xffff, 0xfffe, 0x3fff}) {
            x.set(0, top, 0x80000000, 0);
            same("top " + top, x.part(0, 0), top);
        }
        // The highest bit is the sign: by it the root is invalid, a product turned, a zero below another.
        x.set(0, 0xbfff, 0x80000000, 0);
        same("root of top 0xbfff", x.operate(ROOT, 0, 0, 1), INVALID);
        x.set(0, 0x3fff, 0x80000000, 0);
        same("root of top 0x3fff", x.operate(ROOT, 0, 0, 1), 0);
        x.set(1, 0x8000, 0, 0);
        x.operate(TIMES, 0, 1, 2);
        same("1 times top 0x8000", x.part(2, 0), 0x8000);
    }

    private void fraction() {
        sentence(PROMISE_3, "and fraction (high and low, 32 bits each).");
        RealOperations x = new RealOperations();
        for (int bit = 0; bit < 32; bit++) {
            x.set(5, 0x3fff, 1 << bit, 0);
            same("high with bit " + bit, shown(x, 5), real(0x3fff, (1L << bit) << 32));
            x.set(5, 0x3fff, 0, 1 << bit);
            same("low with bit " + bit, shown(x, 5), real(0x3fff, 1L << bit));
        }
        int[] words = {0, 1, -1, Integer.MIN_VALUE, Integer.MAX_VALUE, 0x12345678};
        RealOperations y = new RealOperations();
        for (int high : words) {
            for (int low : words) {
                y.set(7, 0x8001, high, low);
                same("top", y.part(7, 0), 0x8001);
                same("high", y.part(7, 1), high);
                same("low", y.part(7, 2), low);
            }
        }
        // High is the higher half of the number.
        y.set(0, 0x3fff, 0x80000000, 0);
        y.set(1, 0x403e, 0, 1);
        same("1 - 1", y.operate(MINUS, 0, 1, 2), 0);
        same("1 - 1", shown(y, 2), ZERO);
    }

    private void nothingElseChanges() {
        RealOperations x = new RealOperations();
        x.control(0x0c3f);
        put(x, 1, ONE);
        put(x, 2, THREE);
        x.operate(BY, 1, 2, 3);
        for (int r = 4; r < 8; r++) {
            put(x, r, NO_NUMBER);
        }
        same("told() after set()", x.told(), LOSS);
        same("register 0 after set() of others", shown(x, 0), ZERO);
        same("register 1 after set() of others", shown(x, 1), ONE);
        same("register 3 after set() of others", shown(x, 3), "3ffd aaaaaa0000000000");
        x.operate(BY, 1, 2, 0);
        same("1 / 3 by the control before set()", shown(x, 0), "3ffd aaaaaa0000000000");
    }

    private void noSuchRegister() {
        sentence(PROMISE_3, "IndexOutOfBoundsException when there is no such register");
        RealOperations x = new RealOperations();
        for (int r : NO_REGISTERS) {
            refusesIndex("set(" + r + ", 0x3fff, 0, 1)", () -> x.set(r, 0x3fff, 0, 1));
            refusesIndex("set(" + r + ", 0, 0, 0)", () -> x.set(r, 0, 0, 0));
        }
        for (int r = 0; r < 8; r++) {
            same("register " + r + " after refused calls", shown(x, r), ZERO);
        }
        x.set(0, 1, 2, 3);
        x.set(7, 4, 5, 6);
        same("the first register", shown(x, 0), "0001 0000000200000003");
        same("the last register", shown(x, 7), "0004 0000000500000006");
    }

    private void longTop() {
        sentence(PROMISE_3, "IllegalArgumentException when top has more than 16 bits.");
        RealOperations x = new RealOperations();
        for (int r = 0; r < 8; r++) {
            put(x, r, UNCHANGED);
        }
        for (int top : LONG_WORDS) {
            refusesArgument("set(0, " + top + ", 2, 3)", () -> x.set(0, top, 2, 3));
            refusesArgument("set(7, " + top + ", 2, 3)", () -> x.set(7, top, 2, 3));
        }
        for (int bit = 16; bit < 32; bit++) {
            int top = 1 << bit | 0x3fff;
            refusesArgument("set(3, " + top + ", 2, 3)", () -> x.set(3, top, 2, 3));
        }
        for (int r = 0; r < 8; r++) {
            same("register " + r + " after refused calls", shown(x, r), UNCHANGED);
        }
        x.set(0, 0xffff, 0, 0);
        same("top 0xffff", x.part(0, 0), 0xffff);
    }
}
