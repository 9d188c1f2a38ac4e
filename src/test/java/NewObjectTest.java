/** Promise 1: what a new object holds, and that objects share nothing. */
public final class NewObjectTest extends Sentences {
    public static void main(String[] args) {
        new NewObjectTest().runAlone();
    }

    @Override
    void run() {
        theControl();
        theRegisters();
    }

    /** 0x03ff: all masked, 64 digits, to the nearest, one infinite number. */
    private void theControl() {
        sentence(PROMISE_1, "The control is 0x03ff");
        withoutControl(BY, ZERO, ZERO, INVALID, INDEFINITE);
        withoutControl(PLUS, SMALL, ZERO, DENORMAL, SMALL);
        withoutControl(BY, ONE, ZERO, DIVISION, INFINITE);
        withoutControl(TIMES, "7ffe 8000000000000000", THREE, OVER | LOSS, INFINITE);
        withoutControl(BY, "0001 8000000000000001", TWO, UNDER | LOSS, "0000 4000000000000000");
        withoutControl(PLUS, "3fff 8000000000000001", ZERO, 0, "3fff 8000000000000001");
        withoutControl(BY, ONE, THREE, LOSS, "3ffd aaaaaaaaaaaaaaab");
        withoutControl(BY, MINUS_ONE, THREE, LOSS, "bffd aaaaaaaaaaaaaaab");
        withoutControl(BY, "4001 a000000000000000", THREE, LOSS, "3fff d555555555555555");
        withoutControl(BY, "c001 a000000000000000", THREE, LOSS, "bfff d555555555555555");
        withoutControl(MINUS, ONE, ONE, 0, ZERO);
        withoutControl(PLUS, INFINITE, INFINITE, INVALID, INDEFINITE);
        withoutControl(ROOT, INFINITE, ONE, INVALID, INDEFINITE);
        anotherObjectsControl();
    }

    private void withoutControl(int operation, String a, String b, int told, String answer) {
        RealOperations x = new RealOperations();
        put(x, 6, a);
        put(x, 7, b);
        String what = "without control(): operation " + operation + " on " + a + " and " + b;
        same(what + " tells:", x.operate(operation, 6, 7, 0), told);
        same(what, shown(x, 0), answer);
    }

    private void anotherObjectsControl() {
        RealOperations x = new RealOperations();
        x.control(0x1c00);
        withoutControl(BY, ONE, THREE, LOSS, "3ffd aaaaaaaaaaaaaaab");
        withoutControl(BY, ZERO, ZERO, INVALID, INDEFINITE);
        put(x, 1, ONE);
        put(x, 2, THREE);
        new RealOperations();
        x.operate(BY, 1, 2, 3);
        same("1 / 3 by control 0x1c00 with another object made", shown(x, 3), "3ffd aaaaaa0000000000");
    }

    private void theRegisters() {
        sentence(PROMISE_1, "all registers are ZERO without the sign -.");
        RealOperations x = new RealOperations();
        for (int r = 0; r < 8; r++) {
            same("part(" + r + ", 0)", x.part(r, 0), 0);
            same("part(" + r + ", 1)", x.part(r, 1), 0);
            same("part(" + r + ", 2)", x.part(r, 2), 0);
            put(x, r, MINUS_GREATEST);
        }
        RealOperations y = new RealOperations();
        for (int r = 0; r < 8; r++) {
            same("register " + r + " of another object", shown(y, r), ZERO);
            same("root of register " + r, y.operate(ROOT, r, r, 0), 0);
            same("root of register " + r, shown(y, 0), ZERO);
        }
    }
}
