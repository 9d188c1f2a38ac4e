import java.math.BigInteger;

/** Counts the answers of one test that are not as due, and runs single operations written as text. */
final class Checks {
    static final int PLUS = 0;
    static final int MINUS = 1;
    static final int MINUS_BACKWARDS = 2;
    static final int TIMES = 3;
    static final int BY = 4;
    static final int BY_BACKWARDS = 5;
    static final int ROOT = 6;

    static final int INVALID = 1;
    static final int DENORMAL = 2;
    static final int DIVISION = 4;
    static final int OVER = 8;
    static final int UNDER = 16;
    static final int LOSS = 32;

    /** Controls: all masked, to the nearest, one infinite number, of 24, 53 and 64 digits. */
    static final int MASKED_24 = 0x003f;
    static final int MASKED_53 = 0x023f;
    static final int MASKED = 0x033f;

    /** What is put to a control. */
    static final int TWO_INFINITES = 0x1000;
    static final int ROUND_DOWN = 0x0400;
    static final int ROUND_UP = 0x0800;
    static final int ROUND_TO_0 = 0x0c00;

    /** What stands in the register of the answer before an operation. */
    static final String UNCHANGED = "4abc 123456789abcdef0";

    private int wrong = 0;

    interface Call {
        void run();
    }

    void same(String what, long got, long due) {
        if (got != due) {
            wrong++;
            System.out.println(what + " answered " + got + ", due is " + due);
        }
    }

    void same(String what, String got, String due) {
        if (!got.equals(due)) {
            wrong++;
            System.out.println(what + " answered " + got + ", due is " + due);
        }
    }

    void refuses(String what, Class<? extends RuntimeException> due, Call call) {
        String got = "nothing";
        try {
            call.run();
        } catch (RuntimeException e) {
            got = e.getClass().getName();
        }
        same(what + " throws:", got, due.getName());
    }

    void refusesIndex(String what, Call call) {
        refuses(what, IndexOutOfBoundsException.class, call);
    }

    void refusesArgument(String what, Call call) {
        refuses(what, IllegalArgumentException.class, call);
    }

    /** One operation on registers 1 and 2 of a new object, the answer in 3. */
    void operation(int control, int operation, String a, String b, int told, String answer) {
        RealOperations x = new RealOperations();
        x.control(control);
        put(x, 1, a);
        put(x, 2, b);
        put(x, 3, UNCHANGED);
        String what = Integer.toHexString(control) + ": operation " + operation + " on " + a + " and " + b;
        same(what + " tells:", x.operate(operation, 1, 2, 3), told);
        same(what, shown(x, 3), answer);
        same(what + ", told():", x.told(), told);
        same(what + ", a after it", shown(x, 1), a);
        same(what + ", b after it", shown(x, 2), b);
    }

    /** A real is written as its top and its fraction, both in hex. */
    static void put(RealOperations x, int r, String real) {
        long f = new BigInteger(real.substring(5), 16).longValue();
        x.set(r, Integer.parseInt(real.substring(0, 4), 16), (int) (f >>> 32), (int) f);
    }

    static String shown(RealOperations x, int r) {
        return String.format("%04x %08x%08x", x.part(r, 0), x.part(r, 1), x.part(r, 2));
    }

    void end() {
        System.out.println(wrong == 0 ? "all answers are as due" : wrong + " answers are not as due");
        if (wrong != 0) {
            System.exit(1);
        }
    }
}
