/** Promise 1: what a new object holds, and that objects share nothing. */
public final class NewObjectTest {
    private static final Checks CHECKS = new Checks();

    private static final String ZERO = "0000 0000000000000000";
    private static final String ONE = "3fff 8000000000000000";
    private static final String THREE = "4000 c000000000000000";
    private static final String INFINITE = "7fff 8000000000000000";
    private static final String INDEFINITE = "ffff c000000000000000";

    public static void main(String[] args) {
        RealOperations x = new RealOperations();
        for (int r = 0; r < 8; r++) {
            CHECKS.same("register " + r, Checks.shown(x, r), ZERO);
        }
        CHECKS.same("told()", x.told(), 0);
        controlIsTheFirst();
        objectsShareNothing();
        CHECKS.end();
    }

    /** 0x03ff: all masked, 64 digits, to the nearest, one infinite number. */
    private static void controlIsTheFirst() {
        unchangedControl(Checks.BY, ONE, THREE, Checks.LOSS, "3ffd aaaaaaaaaaaaaaab");
        unchangedControl(Checks.BY, "bfff 8000000000000000", THREE, Checks.LOSS, "bffd aaaaaaaaaaaaaaab");
        unchangedControl(Checks.BY, "4000 8000000000000000", THREE, Checks.LOSS, "3ffe aaaaaaaaaaaaaaab");
        unchangedControl(Checks.BY, ONE, "4001 a000000000000000", Checks.LOSS, "3ffc cccccccccccccccd");
        unchangedControl(Checks.PLUS, INFINITE, INFINITE, Checks.INVALID, INDEFINITE);
        unchangedControl(Checks.ROOT, INFINITE, ONE, Checks.INVALID, INDEFINITE);
        unchangedControl(Checks.PLUS, "0000 0000000000000001", ZERO, Checks.DENORMAL, "0000 0000000000000001");
        unchangedControl(Checks.BY, ONE, ZERO, Checks.DIVISION, INFINITE);
        unchangedControl(Checks.TIMES, "7ffe 8000000000000000", THREE, Checks.OVER | Checks.LOSS, INFINITE);
        unchangedControl(Checks.BY, "0001 8000000000000001", "4000 8000000000000000",
                Checks.UNDER | Checks.LOSS, "0000 4000000000000000");
    }

    private static void unchangedControl(int operation, String a, String b, int told, String answer) {
        RealOperations x = new RealOperations();
        Checks.put(x, 6, a);
        Checks.put(x, 7, b);
        String what = "without control(): operation " + operation + " on " + a + " and " + b;
        CHECKS.same(what + " tells:", x.operate(operation, 6, 7, 0), told);
        CHECKS.same(what, Checks.shown(x, 0), answer);
    }

    private static void objectsShareNothing() {
        RealOperations x = new RealOperations();
        x.control(0);
        for (int r = 0; r < 8; r++) {
            Checks.put(x, r, INFINITE);
        }
        x.operate(Checks.PLUS, 0, 0, 0);
        RealOperations y = new RealOperations();
        CHECKS.same("told() of another object", y.told(), 0);
        for (int r = 0; r < 8; r++) {
            CHECKS.same("register " + r + " of another object", Checks.shown(y, r), ZERO);
        }
        CHECKS.same("0 / 0 by another object's control tells:", y.operate(Checks.BY, 0, 1, 2), Checks.INVALID);
        CHECKS.same("0 / 0 by another object's control", Checks.shown(y, 2), INDEFINITE);
    }
}
