/** The terms "eight registers" and "a call that throws". */
public final class RegistersTest extends Sentences {
    public static void main(String[] args) {
        new RegistersTest().runAlone();
    }

    @Override
    void run() {
        eightRegisters();
        throwingChangesNothing();
        firstNamedIsThrown();
    }

    private void eightRegisters() {
        sentence(EIGHT_REGISTERS, "EIGHT REGISTERS, 0 .. 7, hold reals.");
        String[] reals = {
            ZERO, MINUS_SMALL, UNNORMAL_ONE, "fffe 0000000000000000", GREATEST, BARE_INFINITE, INDEFINITE, MINUS_ONE,
        };
        for (int shift = 0; shift < 8; shift++) {
            RealOperations x = new RealOperations();
            for (int r = 0; r < 8; r++) {
                put(x, r, reals[(r + shift) % 8]);
            }
            for (int r = 0; r < 8; r++) {
                same("register " + r, shown(x, r), reals[(r + shift) % 8]);
            }
        }
        for (int r : NO_REGISTERS) {
            RealOperations x = new RealOperations();
            refusesIndex("set(" + r + ", 0, 0, 0)", () -> x.set(r, 0, 0, 0));
            refusesIndex("part(" + r + ", 0)", () -> x.part(r, 0));
            refusesIndex("operate(0, " + r + ", 0, 0)", () -> x.operate(PLUS, r, 0, 0));
        }
    }

    private void throwingChangesNothing() {
        sentence(A_CALL_THAT_THROWS, "A call that throws changes nothing");
        for (int word : LONG_WORDS) {
            changesNothing("control(" + word + ")", x -> x.control(word));
        }
        for (int r : NO_REGISTERS) {
            changesNothing("set(" + r + ", 0, 0, 0)", x -> x.set(r, 0x3fff, 0x80000000, 0));
            changesNothing("part(" + r + ", 0)", x -> x.part(r, 0));
            for (int operation = PLUS; operation <= ROOT; operation++) {
                int o = operation;
                // Behind the wrong one, these would tell INVALID, DENORMAL, DIVISION or LOSS and change register 6.
                changesNothing("operate(" + o + ", " + r + ", 0, 6)", x -> x.operate(o, r, 0, 6));
                changesNothing("operate(" + o + ", 4, " + r + ", 6)", x -> x.operate(o, 4, r, 6));
                changesNothing("operate(" + o + ", 1, 0, " + r + ")", x -> x.operate(o, 1, 0, r));
                changesNothing("operate(" + o + ", 3, 2, " + r + ")", x -> x.operate(o, 3, 2, r));
            }
        }
        for (int top : LONG_WORDS) {
            for (int register = 0; register < 8; register++) {
                int r = register;
                changesNothing("set(" + r + ", " + top + ", 1, 2)", x -> x.set(r, top, 1, 2));
            }
        }
        for (int what : new int[] {-1, 3, 4}) {
            changesNothing("part(0, " + what + ")", x -> x.part(0, what));
        }
        for (int operation : new int[] {-1, 7, 8, 16, Integer.MIN_VALUE, Integer.MAX_VALUE}) {
            changesNothing("operate(" + operation + ", 1, 2, 6)", x -> x.operate(operation, 1, 2, 6));
            changesNothing("operate(" + operation + ", 0, 0, 0)", x -> x.operate(operation, 0, 0, 0));
        }
    }

    interface CallOn {
        void run(RealOperations x);
    }

    /** What is seen of an object on which a call was refused must be what is seen of one without that call. */
    private void changesNothing(String what, CallOn call) {
        for (int control : new int[] {0x0a3f, 0x1700, 0x003f}) {
            RealOperations x = prepared(control);
            String thrown = "";
            try {
                call.run(x);
            } catch (IndexOutOfBoundsException | IllegalArgumentException e) {
                thrown = " throws, and behind it";
            }
            String text = what + thrown + " by control " + Integer.toHexString(control);
            same(text, thrown.isEmpty() ? "nothing is thrown" : seen(x), seen(prepared(control)));
        }
    }

    private static RealOperations prepared(int control) {
        RealOperations x = new RealOperations();
        String[] reals = {ZERO, ONE, THREE, SMALL, NO_NUMBER, INFINITE, UNCHANGED, MINUS_ONE};
        for (int r = 0; r < 8; r++) {
            put(x, r, reals[r]);
        }
        x.control(control);
        x.operate(TIMES, 2, 5, 5);
        x.clear();
        x.operate(BY, 1, 2, 0);
        put(x, 0, ZERO);
        return x;
    }

    /** All registers, what was told, and by some operations the control. */
    private static String seen(RealOperations x) {
        StringBuilder text = new StringBuilder();
        for (int r = 0; r < 8; r++) {
            text.append(shown(x, r)).append(", ");
        }
        text.append("told ").append(x.told());
        int[][] calls = {{BY, 7, 2}, {BY, 1, 2}, {PLUS, 5, 5}, {BY, 0, 0}, {BY, 1, 0}, {PLUS, 3, 1}, {TIMES, 3, 3}};
        for (int[] call : calls) {
            text.append(", ").append(x.operate(call[0], call[1], call[2], 6)).append(": ").append(shown(x, 6));
        }
        return text.toString();
    }

    private void firstNamedIsThrown() {
        sentence(A_CALL_THAT_THROWS, "; where several exceptions that a call names fit, the one named first is thrown.");
        RealOperations x = new RealOperations();
        for (int r : NO_REGISTERS) {
            for (int word : LONG_WORDS) {
                refusesIndex("set(" + r + ", " + word + ", 0, 0)", () -> x.set(r, word, 0, 0));
            }
            for (int what : new int[] {-1, 3, Integer.MIN_VALUE, Integer.MAX_VALUE}) {
                refusesIndex("part(" + r + ", " + what + ")", () -> x.part(r, what));
            }
        }
        RealOperations y = new RealOperations();
        for (int r : NO_REGISTERS) {
            for (int o : new int[] {-1, 7, 8, Integer.MIN_VALUE, Integer.MAX_VALUE}) {
                refusesIndex("operate(" + o + ", " + r + ", 0, 0)", () -> y.operate(o, r, 0, 0));
                refusesIndex("operate(" + o + ", 0, " + r + ", 0)", () -> y.operate(o, 0, r, 0));
                refusesIndex("operate(" + o + ", 0, 0, " + r + ")", () -> y.operate(o, 0, 0, r));
                refusesIndex("operate(" + o + ", " + r + ", .., ..)", () -> y.operate(o, r, r, r));
            }
        }
    }
}
