/** Promise 5: the rules 1 to 5, the zeros of rule 6, which registers are used, and calls that are refused. */
public final class OperateTest {
    private static final Checks CHECKS = new Checks();

    private static final int MASKED = Checks.MASKED;
    private static final int TWO = Checks.MASKED | Checks.TWO_INFINITES;
    private static final int INVALID_OPEN = Checks.MASKED & ~Checks.INVALID;
    private static final int DENORMAL_OPEN = Checks.MASKED & ~Checks.DENORMAL;
    private static final int DIVISION_OPEN = Checks.MASKED & ~Checks.DIVISION;

    private static final int INVALID = Checks.INVALID;
    private static final int DENORMAL = Checks.DENORMAL;
    private static final int DIVISION = Checks.DIVISION;

    private static final String ZERO = "0000 0000000000000000";
    private static final String MINUS_ZERO = "8000 0000000000000000";
    private static final String ONE = "3fff 8000000000000000";
    private static final String MINUS_ONE = "bfff 8000000000000000";
    private static final String TWO_WHOLE = "4000 8000000000000000";
    private static final String THREE = "4000 c000000000000000";
    private static final String INFINITE = "7fff 8000000000000000";
    private static final String MINUS_INFINITE = "ffff 8000000000000000";
    private static final String BARE_INFINITE = "7fff 0000000000000000";
    private static final String MINUS_BARE_INFINITE = "ffff 0000000000000000";
    private static final String INDEFINITE = "ffff c000000000000000";
    private static final String SMALL = "0000 0000000000000001";
    private static final String MINUS_SMALL = "8000 0000000000000001";
    private static final String UNNORMAL_ONE = "4000 4000000000000000";
    private static final String UNNORMAL_NOTHING = "4123 0000000000000000";
    private static final String GREAT_NOTHING = "7ffe 0000000000000000";
    private static final String MINUS_UNNORMAL_NOTHING = "c123 0000000000000000";
    private static final String NO_NUMBER = "7fff 8000000000000001";

    public static void main(String[] args) {
        operationsAreTheirOwn();
        noNumbers();
        invalidSums();
        invalidProductsAndQuotients();
        invalidRoots();
        denormals();
        divisions();
        infinites();
        zeros();
        unnormals();
        stoppedOnes();
        registersMayBeTheSame();
        wrongCalls();
        CHECKS.end();
    }

    private static void masked(int operation, String a, String b, int told, String answer) {
        CHECKS.operation(MASKED, operation, a, b, told, answer);
        CHECKS.operation(TWO, operation, a, b, told, answer);
    }

    private static void operationsAreTheirOwn() {
        masked(Checks.PLUS, THREE, TWO_WHOLE, 0, "4001 a000000000000000");
        masked(Checks.MINUS, THREE, TWO_WHOLE, 0, ONE);
        masked(Checks.MINUS_BACKWARDS, THREE, TWO_WHOLE, 0, MINUS_ONE);
        masked(Checks.TIMES, THREE, TWO_WHOLE, 0, "4001 c000000000000000");
        masked(Checks.BY, THREE, TWO_WHOLE, 0, "3fff c000000000000000");
        masked(Checks.BY_BACKWARDS, THREE, TWO_WHOLE, Checks.LOSS, "3ffe aaaaaaaaaaaaaaab");
        masked(Checks.ROOT, "4002 9000000000000000", TWO_WHOLE, 0, THREE);
        masked(Checks.ROOT, TWO_WHOLE, THREE, Checks.LOSS, "3fff b504f333f9de6484");
        masked(Checks.ROOT, "4001 8000000000000000", THREE, 0, TWO_WHOLE);
        masked(Checks.TIMES, MINUS_ONE, THREE, 0, "c000 c000000000000000");
        masked(Checks.TIMES, MINUS_ONE, MINUS_ONE, 0, ONE);
        masked(Checks.BY, MINUS_ONE, TWO_WHOLE, 0, "bffe 8000000000000000");
        masked(Checks.BY, MINUS_ONE, MINUS_ONE, 0, ONE);
        masked(Checks.MINUS, MINUS_ONE, TWO_WHOLE, 0, "c000 c000000000000000");
        masked(Checks.MINUS_BACKWARDS, MINUS_ONE, TWO_WHOLE, 0, THREE);
    }

    private static void noNumbers() {
        for (int operation = Checks.PLUS; operation <= Checks.BY_BACKWARDS; operation++) {
            masked(operation, NO_NUMBER, ONE, INVALID, NO_NUMBER);
            masked(operation, ONE, NO_NUMBER, INVALID, NO_NUMBER);
            masked(operation, ZERO, "ffff 8000000000000001", INVALID, "ffff 8000000000000001");
            masked(operation, "7fff 0000000000000001", ZERO, INVALID, "7fff 0000000000000001");
            masked(operation, "7fff 0000000000000001", "3fff ffffffffffffffff", INVALID, "7fff 0000000000000001");
            masked(operation, "3fff ffffffffffffffff", "ffff 0000000000000001", INVALID, "ffff 0000000000000001");
            masked(operation, SMALL, "7fff 4000000000000000", INVALID, "7fff 4000000000000000");
            masked(operation, INFINITE, NO_NUMBER, INVALID, NO_NUMBER);
            masked(operation, BARE_INFINITE, NO_NUMBER, INVALID, NO_NUMBER);
            masked(operation, "ffff ffffffffffffffff", "7fff 8000000000000001", INVALID, "ffff ffffffffffffffff");
            masked(operation, "7fff 8000000000000001", "ffff ffffffffffffffff", INVALID, "ffff ffffffffffffffff");
            masked(operation, "7fff 7fffffffffffffff", "ffff 8000000000000001", INVALID, "ffff 8000000000000001");
            masked(operation, "ffff 8000000000000001", "7fff 7fffffffffffffff", INVALID, "ffff 8000000000000001");
            masked(operation, "ffff c000000000000000", "7fff c000000000000000", INVALID, "7fff c000000000000000");
            masked(operation, "7fff c000000000000000", "ffff c000000000000000", INVALID, "7fff c000000000000000");
            masked(operation, INDEFINITE, INDEFINITE, INVALID, INDEFINITE);
            CHECKS.operation(INVALID_OPEN, operation, NO_NUMBER, SMALL, INVALID, Checks.UNCHANGED);
        }
        masked(Checks.ROOT, "ffff 8000000000000001", ONE, INVALID, "ffff 8000000000000001");
        masked(Checks.ROOT, ONE, NO_NUMBER, 0, ONE);
        CHECKS.operation(INVALID_OPEN, Checks.ROOT, NO_NUMBER, ONE, INVALID, Checks.UNCHANGED);
    }

    private static void invalidSums() {
        String[] infinites = {INFINITE, MINUS_INFINITE, BARE_INFINITE, MINUS_BARE_INFINITE};
        for (String a : infinites) {
            for (String b : infinites) {
                boolean same = a.charAt(0) == b.charAt(0);
                String ofA = a.charAt(0) == 'f' ? MINUS_INFINITE : INFINITE;
                String ofB = b.charAt(0) == 'f' ? MINUS_INFINITE : INFINITE;
                for (int operation = Checks.PLUS; operation <= Checks.MINUS_BACKWARDS; operation++) {
                    CHECKS.operation(MASKED, operation, a, b, INVALID, INDEFINITE);
                    CHECKS.operation(INVALID_OPEN, operation, a, b, INVALID, Checks.UNCHANGED);
                }
                CHECKS.operation(TWO, Checks.PLUS, a, b, same ? 0 : INVALID, same ? ofA : INDEFINITE);
                CHECKS.operation(TWO, Checks.MINUS, a, b, same ? INVALID : 0, same ? INDEFINITE : ofA);
                CHECKS.operation(TWO, Checks.MINUS_BACKWARDS, a, b, same ? INVALID : 0, same ? INDEFINITE : ofB);
            }
        }
    }

    private static void invalidProductsAndQuotients() {
        String[] nothings = {ZERO, MINUS_ZERO, GREAT_NOTHING, MINUS_UNNORMAL_NOTHING};
        String[] infinites = {INFINITE, MINUS_INFINITE, BARE_INFINITE, MINUS_BARE_INFINITE};
        for (int i = 0; i < 4; i++) {
            masked(Checks.TIMES, nothings[i], infinites[i], INVALID, INDEFINITE);
            masked(Checks.TIMES, infinites[3 - i], nothings[i], INVALID, INDEFINITE);
            masked(Checks.BY, infinites[i], infinites[3 - i], INVALID, INDEFINITE);
            masked(Checks.BY_BACKWARDS, infinites[i], infinites[i], INVALID, INDEFINITE);
            masked(Checks.BY, nothings[i], nothings[3 - i], INVALID, INDEFINITE);
            masked(Checks.BY_BACKWARDS, nothings[i], nothings[i], INVALID, INDEFINITE);
        }
        String[] dividends = {ZERO, ONE, SMALL, INFINITE, BARE_INFINITE, UNNORMAL_ONE, UNNORMAL_NOTHING};
        for (String dividend : dividends) {
            masked(Checks.BY, dividend, UNNORMAL_ONE, INVALID, INDEFINITE);
            masked(Checks.BY, dividend, "fffe 7fffffffffffffff", INVALID, INDEFINITE);
            masked(Checks.BY_BACKWARDS, "0001 0000000000000001", dividend, INVALID, INDEFINITE);
            CHECKS.operation(INVALID_OPEN, Checks.BY, dividend, UNNORMAL_ONE, INVALID, Checks.UNCHANGED);
        }
    }

    private static void invalidRoots() {
        String[] wrong = {
            MINUS_ONE, MINUS_SMALL, "8000 8000000000000000", "c000 4000000000000000", MINUS_INFINITE,
            MINUS_BARE_INFINITE, UNNORMAL_ONE, "0001 7fffffffffffffff", "7ffe 0000000000000001",
        };
        for (String real : wrong) {
            masked(Checks.ROOT, real, ONE, INVALID, INDEFINITE);
            CHECKS.operation(INVALID_OPEN, Checks.ROOT, real, ONE, INVALID, Checks.UNCHANGED);
        }
        CHECKS.operation(MASKED, Checks.ROOT, INFINITE, ONE, INVALID, INDEFINITE);
        CHECKS.operation(MASKED, Checks.ROOT, BARE_INFINITE, ONE, INVALID, INDEFINITE);
        CHECKS.operation(TWO, Checks.ROOT, INFINITE, ONE, 0, INFINITE);
        CHECKS.operation(TWO, Checks.ROOT, BARE_INFINITE, ONE, 0, INFINITE);
    }

    private static void denormals() {
        masked(Checks.PLUS, SMALL, SMALL, DENORMAL, "0000 0000000000000002");
        masked(Checks.PLUS, ZERO, SMALL, DENORMAL, SMALL);
        masked(Checks.PLUS, "0000 8000000000000000", ZERO, DENORMAL, "0001 8000000000000000");
        masked(Checks.MINUS, SMALL, SMALL, DENORMAL, ZERO);
        masked(Checks.TIMES, SMALL, ONE, DENORMAL, SMALL);
        masked(Checks.TIMES, ONE, MINUS_SMALL, DENORMAL, MINUS_SMALL);
        masked(Checks.TIMES, ZERO, SMALL, DENORMAL, ZERO);
        masked(Checks.BY, SMALL, SMALL, DENORMAL, ONE);
        masked(Checks.BY, ZERO, SMALL, DENORMAL, ZERO);
        masked(Checks.BY, SMALL, INFINITE, DENORMAL, ZERO);
        masked(Checks.PLUS, SMALL, MINUS_INFINITE, DENORMAL, MINUS_INFINITE);
        masked(Checks.TIMES, INFINITE, SMALL, DENORMAL, INFINITE);
        masked(Checks.ROOT, "0000 0000000000000002", SMALL, DENORMAL, "1fe1 8000000000000000");
        masked(Checks.ROOT, ONE, SMALL, 0, ONE);
        masked(Checks.ROOT, "0000 8000000000000000", ONE, DENORMAL, "2000 8000000000000000");
        CHECKS.operation(DENORMAL_OPEN, Checks.ROOT, ONE, SMALL, 0, ONE);
        CHECKS.operation(DENORMAL_OPEN, Checks.ROOT, MINUS_SMALL, SMALL, INVALID, INDEFINITE);
        CHECKS.operation(DENORMAL_OPEN, Checks.BY, SMALL, UNNORMAL_ONE, INVALID, INDEFINITE);
    }

    private static void divisions() {
        String[] nothings = {ZERO, UNNORMAL_NOTHING, GREAT_NOTHING};
        String[] minusNothings = {MINUS_ZERO, MINUS_UNNORMAL_NOTHING, "8001 0000000000000000"};
        for (int i = 0; i < 3; i++) {
            String nothing = nothings[i];
            String minusNothing = minusNothings[i];
            masked(Checks.BY, ONE, nothing, DIVISION, INFINITE);
            masked(Checks.BY, ONE, minusNothing, DIVISION, MINUS_INFINITE);
            masked(Checks.BY, MINUS_ONE, nothing, DIVISION, MINUS_INFINITE);
            masked(Checks.BY, MINUS_ONE, minusNothing, DIVISION, INFINITE);
            masked(Checks.BY_BACKWARDS, minusNothing, ONE, DIVISION, MINUS_INFINITE);
            masked(Checks.BY, UNNORMAL_ONE, nothing, DIVISION, INFINITE);
            masked(Checks.BY, SMALL, nothing, DENORMAL | DIVISION, INFINITE);
            masked(Checks.BY, INFINITE, nothing, 0, INFINITE);
            masked(Checks.BY, BARE_INFINITE, minusNothing, 0, MINUS_INFINITE);
            masked(Checks.BY_BACKWARDS, ONE, nothing, 0, ZERO);
        }
    }

    private static void infinites() {
        String[] numbers = {ONE, ZERO, UNNORMAL_ONE, UNNORMAL_NOTHING, MINUS_ONE, MINUS_ZERO};
        for (String number : numbers) {
            masked(Checks.PLUS, number, INFINITE, 0, INFINITE);
            masked(Checks.PLUS, MINUS_BARE_INFINITE, number, 0, MINUS_INFINITE);
            masked(Checks.MINUS, number, INFINITE, 0, MINUS_INFINITE);
            masked(Checks.MINUS, INFINITE, number, 0, INFINITE);
            masked(Checks.MINUS, number, MINUS_BARE_INFINITE, 0, INFINITE);
            masked(Checks.MINUS_BACKWARDS, number, INFINITE, 0, INFINITE);
            masked(Checks.MINUS_BACKWARDS, INFINITE, number, 0, MINUS_INFINITE);
        }
        masked(Checks.TIMES, ONE, INFINITE, 0, INFINITE);
        masked(Checks.TIMES, BARE_INFINITE, MINUS_ONE, 0, MINUS_INFINITE);
        masked(Checks.TIMES, MINUS_INFINITE, UNNORMAL_ONE, 0, MINUS_INFINITE);
        masked(Checks.TIMES, MINUS_INFINITE, MINUS_BARE_INFINITE, 0, INFINITE);
        masked(Checks.TIMES, MINUS_INFINITE, INFINITE, 0, MINUS_INFINITE);
        masked(Checks.BY, INFINITE, MINUS_ONE, 0, MINUS_INFINITE);
        masked(Checks.BY_BACKWARDS, MINUS_ONE, MINUS_BARE_INFINITE, 0, INFINITE);
        masked(Checks.BY, ONE, MINUS_INFINITE, 0, MINUS_ZERO);
        masked(Checks.BY, MINUS_ONE, MINUS_BARE_INFINITE, 0, ZERO);
        masked(Checks.BY_BACKWARDS, INFINITE, UNNORMAL_ONE, 0, ZERO);
    }

    private static void zeros() {
        String[] nothings = {ZERO, UNNORMAL_NOTHING, GREAT_NOTHING};
        String[] minusNothings = {MINUS_ZERO, MINUS_UNNORMAL_NOTHING, "fffe 0000000000000000"};
        for (int rounding = 0; rounding < 4; rounding++) {
            int control = MASKED | rounding << 10;
            String byRounding = rounding == 1 ? MINUS_ZERO : ZERO;
            for (int i = 0; i < 3; i++) {
                String plus = nothings[i];
                String minus = minusNothings[2 - i];
                CHECKS.operation(control, Checks.PLUS, plus, ZERO, 0, ZERO);
                CHECKS.operation(control, Checks.PLUS, minus, MINUS_ZERO, 0, MINUS_ZERO);
                CHECKS.operation(control, Checks.PLUS, plus, minus, 0, byRounding);
                CHECKS.operation(control, Checks.PLUS, minus, plus, 0, byRounding);
                CHECKS.operation(control, Checks.MINUS, plus, minus, 0, ZERO);
                CHECKS.operation(control, Checks.MINUS, minus, plus, 0, MINUS_ZERO);
                CHECKS.operation(control, Checks.MINUS, plus, plus, 0, byRounding);
                CHECKS.operation(control, Checks.MINUS_BACKWARDS, plus, minus, 0, MINUS_ZERO);
                CHECKS.operation(control, Checks.MINUS_BACKWARDS, minus, plus, 0, ZERO);
                CHECKS.operation(control, Checks.MINUS_BACKWARDS, minus, minus, 0, byRounding);
                CHECKS.operation(control, Checks.TIMES, plus, minus, 0, MINUS_ZERO);
                CHECKS.operation(control, Checks.TIMES, minus, MINUS_ONE, 0, ZERO);
                CHECKS.operation(control, Checks.BY, minus, ONE, 0, MINUS_ZERO);
                CHECKS.operation(control, Checks.BY_BACKWARDS, MINUS_ONE, minus, 0, ZERO);
                CHECKS.operation(control, Checks.ROOT, plus, MINUS_ONE, 0, ZERO);
                CHECKS.operation(control, Checks.ROOT, minus, ONE, 0, MINUS_ZERO);
            }
            CHECKS.operation(control, Checks.MINUS, THREE, THREE, 0, byRounding);
            CHECKS.operation(control, Checks.PLUS, ONE, MINUS_ONE, 0, byRounding);
            CHECKS.operation(control, Checks.MINUS_BACKWARDS, MINUS_ONE, MINUS_ONE, 0, byRounding);
            CHECKS.operation(control, Checks.PLUS, UNNORMAL_ONE, MINUS_ONE, 0, byRounding);
        }
    }

    private static void unnormals() {
        masked(Checks.PLUS, UNNORMAL_ONE, TWO_WHOLE, 0, THREE);
        masked(Checks.PLUS, UNNORMAL_ONE, UNNORMAL_NOTHING, 0, ONE);
        masked(Checks.PLUS, "7ffe 0000000000000000", ONE, 0, ONE);
        masked(Checks.MINUS, "7ffe 0000000000000000", ONE, 0, MINUS_ONE);
        masked(Checks.TIMES, UNNORMAL_ONE, UNNORMAL_ONE, 0, ONE);
        masked(Checks.TIMES, "403e 0000000000000001", THREE, 0, THREE);
        masked(Checks.BY, UNNORMAL_ONE, TWO_WHOLE, 0, "3ffe 8000000000000000");
        masked(Checks.PLUS, "0001 0000000000000001", ZERO, 0, SMALL);
        masked(Checks.PLUS, "0002 4000000000000000", ZERO, 0, "0001 8000000000000000");
        masked(Checks.PLUS, "7ffe 7fffffffffffffff", ZERO, 0, "7ffd fffffffffffffffe");
    }

    /** Nothing more is looked at behind what is not masked, but what came before it is told. */
    private static void stoppedOnes() {
        int none = 0x0300;
        CHECKS.operation(none, Checks.PLUS, SMALL, ONE, DENORMAL, Checks.UNCHANGED);
        CHECKS.operation(none, Checks.TIMES, ZERO, SMALL, DENORMAL, Checks.UNCHANGED);
        CHECKS.operation(none, Checks.BY, SMALL, ZERO, DENORMAL, Checks.UNCHANGED);
        CHECKS.operation(DENORMAL_OPEN, Checks.BY, SMALL, ZERO, DENORMAL, Checks.UNCHANGED);
        CHECKS.operation(DENORMAL_OPEN, Checks.TIMES, SMALL, INFINITE, DENORMAL, Checks.UNCHANGED);
        CHECKS.operation(DENORMAL_OPEN, Checks.TIMES, SMALL, SMALL, DENORMAL, Checks.UNCHANGED);
        CHECKS.operation(DENORMAL_OPEN, Checks.ROOT, SMALL, ONE, DENORMAL, Checks.UNCHANGED);
        CHECKS.operation(DIVISION_OPEN, Checks.BY, SMALL, ZERO, DENORMAL | DIVISION, Checks.UNCHANGED);
        CHECKS.operation(DIVISION_OPEN, Checks.BY, ONE, ZERO, DIVISION, Checks.UNCHANGED);
        CHECKS.operation(none, Checks.BY, INFINITE, ZERO, 0, INFINITE);
        CHECKS.operation(none, Checks.ROOT, MINUS_SMALL, ZERO, INVALID, Checks.UNCHANGED);
    }

    private static void registersMayBeTheSame() {
        RealOperations x = new RealOperations();
        Checks.put(x, 0, THREE);
        Checks.put(x, 7, TWO_WHOLE);
        CHECKS.same("3 - 2 into a", x.operate(Checks.MINUS, 0, 7, 0), 0);
        CHECKS.same("3 - 2 into a", Checks.shown(x, 0), ONE);
        CHECKS.same("1 - 2 into b", x.operate(Checks.MINUS, 0, 7, 7), 0);
        CHECKS.same("1 - 2 into b", Checks.shown(x, 7), MINUS_ONE);
        CHECKS.same("a stays", Checks.shown(x, 0), ONE);
        CHECKS.same("-1 + -1 into both", x.operate(Checks.PLUS, 7, 7, 7), 0);
        CHECKS.same("-1 + -1 into both", Checks.shown(x, 7), "c000 8000000000000000");
        for (int r = 1; r < 7; r++) {
            CHECKS.same("register " + r + " stays", Checks.shown(x, r), ZERO);
        }
    }

    private static void wrongCalls() {
        RealOperations x = new RealOperations();
        for (int r = 0; r < 8; r++) {
            Checks.put(x, r, Checks.UNCHANGED);
        }
        int[] none = {-1, 8, 9, Integer.MIN_VALUE, Integer.MAX_VALUE};
        for (int r : none) {
            for (int operation = -1; operation <= 7; operation++) {
                int o = operation;
                CHECKS.refusesIndex("operate(" + o + ", " + r + ", 0, 0)", () -> x.operate(o, r, 0, 0));
                CHECKS.refusesIndex("operate(" + o + ", 0, " + r + ", 0)", () -> x.operate(o, 0, r, 0));
                CHECKS.refusesIndex("operate(" + o + ", 0, 0, " + r + ")", () -> x.operate(o, 0, 0, r));
            }
        }
        int[] noOperations = {-1, 7, 8, Integer.MIN_VALUE, Integer.MAX_VALUE};
        for (int o : noOperations) {
            CHECKS.refusesArgument("operate(" + o + ", 0, 0, 0)", () -> x.operate(o, 0, 0, 0));
            CHECKS.refusesArgument("operate(" + o + ", 7, 7, 7)", () -> x.operate(o, 7, 7, 7));
        }
        for (int r = 0; r < 8; r++) {
            CHECKS.same("register " + r + " after refused calls", Checks.shown(x, r), Checks.UNCHANGED);
        }
        CHECKS.same("told() after refused calls", x.told(), 0);
    }
}
