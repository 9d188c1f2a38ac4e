/** Promise 5: which registers an operation takes and changes, what it answers, and wrong calls. */
public final class OperateTest extends Sentences {
    public static void main(String[] args) {
        new OperateTest().runAlone();
    }

    @Override
    void run() {
        eachOfTheRegisters();
        intoAnOperand();
        answersWhatIsTold();
        noSuchRegister();
        noSuchOperation();
    }

    private void eachOfTheRegisters() {
        sentence(PROMISE_5, "An operation on registers a and b, the answer in another one");
        for (int a = 0; a < 8; a++) {
            for (int b = 0; b < 8; b++) {
                for (int to = 0; to < 8; to++) {
                    ofPowersOfTwo(TIMES, a, b, to, 0x3fff + (1 << a) + (1 << b));
                    ofPowersOfTwo(BY, a, b, to, 0x3fff + (1 << a) - (1 << b));
                    ofPowersOfTwo(BY_BACKWARDS, a, b, to, 0x3fff - (1 << a) + (1 << b));
                    if (a > 0) {
                        ofPowersOfTwo(ROOT, a, b, to, 0x3fff + (1 << a - 1));
                    }
                }
            }
        }
    }

    /** Register r holds 2^(2^r): the power of the answer tells of which registers it is. */
    private void ofPowersOfTwo(int operation, int a, int b, int to, int top) {
        RealOperations x = new RealOperations();
        for (int r = 0; r < 8; r++) {
            put(x, r, powerOfTwo(r));
        }
        String what = "operate(" + operation + ", " + a + ", " + b + ", " + to + ")";
        same(what, x.operate(operation, a, b, to), 0);
        for (int r = 0; r < 8; r++) {
            same(what + " left in " + r, shown(x, r), r == to ? real(top, Long.MIN_VALUE) : powerOfTwo(r));
        }
    }

    private static String powerOfTwo(int r) {
        return real(0x3fff + (1 << r), Long.MIN_VALUE);
    }

    /** No exception is named for it, so that the answer may go into a or b. */
    private void intoAnOperand() {
        RealOperations x = new RealOperations();
        put(x, 0, THREE);
        put(x, 7, TWO);
        same("3 - 2 into a", x.operate(MINUS, 0, 7, 0), 0);
        same("3 - 2 into a", shown(x, 0), ONE);
        same("1 - 2 into b", x.operate(MINUS, 0, 7, 7), 0);
        same("1 - 2 into b", shown(x, 7), MINUS_ONE);
        same("a stays", shown(x, 0), ONE);
        same("-1 + -1 into both", x.operate(PLUS, 7, 7, 7), 0);
        same("-1 + -1 into both", shown(x, 7), "c000 8000000000000000");
        same("root of 1 into b", x.operate(ROOT, 0, 7, 7), 0);
        same("root of 1 into b", shown(x, 7), ONE);
        for (int r = 1; r < 7; r++) {
            same("register " + r + " stays", shown(x, r), ZERO);
        }
    }

    private void answersWhatIsTold() {
        sentence(PROMISE_5, "; answers what is told.");
        RealOperations x = readyToTell(MASKED);
        // Only what this operation tells, whatever was told before.
        same("0 / 0", x.operate(BY, 0, 0, 7), INVALID);
        same("1 + 1", x.operate(PLUS, 1, 1, 7), 0);
        same("denormal + 0", x.operate(PLUS, 3, 0, 7), DENORMAL);
        same("1 / 0", x.operate(BY, 1, 0, 7), DIVISION);
        same("2^16383 times 2^16383", x.operate(TIMES, 4, 4, 7), OVER | LOSS);
        same("denormal times denormal", x.operate(TIMES, 3, 3, 7), DENORMAL | UNDER | LOSS);
        same("1 / 3", x.operate(BY, 1, 2, 7), LOSS);
        same("1 / 1", x.operate(BY, 1, 1, 7), 0);
        x.control(0x0300);
        same("0 / 0, not masked", x.operate(BY, 0, 0, 7), INVALID);
        same("denormal + 1, not masked", x.operate(PLUS, 3, 1, 7), DENORMAL);
        same("1 / 0, not masked", x.operate(BY, 1, 0, 7), DIVISION);
        same("2^16383 + 2^16383, not masked", x.operate(PLUS, 4, 4, 7), OVER);
        same("1 - 1", x.operate(MINUS, 1, 1, 7), 0);
        notWhatWasToldBefore();
    }

    private void notWhatWasToldBefore() {
        for (int i = 0; i < 6; i++) {
            int[] call = EACH_TELLS_ONE[i];
            RealOperations x = readyToTell(0x0307);
            same("operation " + i, x.operate(call[0], call[1], call[2], 7), 1 << i);
            same("1 + 1 after operation " + i, x.operate(PLUS, 1, 1, 7), 0);
            same("1 / 3 after operation " + i, x.operate(BY, 1, 2, 7), LOSS);
        }
    }

    private void noSuchRegister() {
        sentence(PROMISE_5, "IndexOutOfBoundsException (also of b of a root) when one of them is none");
        RealOperations x = allUnchanged();
        for (int r : NO_REGISTERS) {
            for (int operation = PLUS; operation <= ROOT; operation++) {
                int o = operation;
                refusesIndex("operate(" + o + ", " + r + ", 0, 0)", () -> x.operate(o, r, 0, 0));
                refusesIndex("operate(" + o + ", 0, " + r + ", 0)", () -> x.operate(o, 0, r, 0));
                refusesIndex("operate(" + o + ", 0, 0, " + r + ")", () -> x.operate(o, 0, 0, r));
                refusesIndex("operate(" + o + ", 7, 7, " + r + ")", () -> x.operate(o, 7, 7, r));
            }
        }
        allStay(x);
    }

    private void noSuchOperation() {
        sentence(PROMISE_5, "IllegalArgumentException when there is no such operation.");
        RealOperations x = allUnchanged();
        int[] none = {-1, 7, 8, -2, 15, 16, 256, 0x10000, 0x10003, Integer.MIN_VALUE, Integer.MAX_VALUE};
        for (int o : none) {
            refusesArgument("operate(" + o + ", 0, 0, 0)", () -> x.operate(o, 0, 0, 0));
            refusesArgument("operate(" + o + ", 7, 7, 7)", () -> x.operate(o, 7, 7, 7));
            refusesArgument("operate(" + o + ", 1, 2, 3)", () -> x.operate(o, 1, 2, 3));
        }
        allStay(x);
        // The first and the last that there are.
        same("operate(0, 0, 1, 2)", allUnchanged().operate(PLUS, 0, 1, 2), 0);
        same("operate(6, 0, 1, 2)", allUnchanged().operate(ROOT, 0, 1, 2), INVALID);
    }

    private static RealOperations allUnchanged() {
        RealOperations x = new RealOperations();
        for (int r = 0; r < 8; r++) {
            put(x, r, UNCHANGED);
        }
        return x;
    }

    private void allStay(RealOperations x) {
        for (int r = 0; r < 8; r++) {
            same("register " + r + " after refused calls", shown(x, r), UNCHANGED);
        }
        same("told() after refused calls", x.told(), 0);
    }
}
