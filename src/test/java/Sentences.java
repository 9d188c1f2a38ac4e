import java.math.BigInteger;
import java.util.ArrayList;
import java.util.List;

/**
 * A test whose checks stand, group by group, for sentences of the document: what fails is told with the
 * promise or the term, and with the sentence. DocumentTest looks whether each sentence has its group.
 */
abstract class Sentences {
    /** A sentence, or a part of one, of one place of the document. */
    record Sentence(String place, String words) {
    }

    interface Call {
        void run();
    }

    /** Places of the document: what a heading, or a paragraph of the terms, begins with. */
    static final String WHAT_IT_IS = "What it is";
    static final String FACE = "The public face";
    static final String REAL = "A REAL";
    static final String THE_CONTROL = "THE CONTROL";
    static final String TO_ROUND = "TO ROUND";
    static final String TO_MAKE = "TO MAKE";
    static final String AN_OPERATION = "AN OPERATION";
    static final String EIGHT_REGISTERS = "EIGHT REGISTERS";
    static final String A_CALL_THAT_THROWS = "A call that throws";
    static final String PROMISE_1 = "Promise 1: A new object";
    static final String PROMISE_2 = "Promise 2: control";
    static final String PROMISE_3 = "Promise 3: set";
    static final String PROMISE_4 = "Promise 4: part";
    static final String PROMISE_5 = "Promise 5: operate";
    static final String PROMISE_6 = "Promise 6: told";
    static final String PROMISE_7 = "Promise 7: clear";

    static final int PLUS = 0;
    static final int MINUS = 1;
    static final int MINUS_BACKWARDS = 2;
    static final int TIMES = 3;
    static final int BY = 4;
    static final int BY_BACKWARDS = 5;
    static final int ROOT = 6;

    static final int INVALID = 1;
    static final int DENORMAL = 2;
    static final int DIVISION = 4;
    static final int OVER = 8;
    static final int UNDER = 16;
    static final int LOSS = 32;

    /** Controls: all masked, to the nearest, one infinite number, of 24, 53 and 64 digits. */
    static final int MASKED_24 = 0x003f;
    static final int MASKED_53 = 0x023f;
    static final int MASKED = 0x033f;
    static final int[] MASKED_OF_EACH_PRECISION = {MASKED_24, MASKED_53, MASKED};

    /** What is put to a control. */
    static final int TWO_INFINITES = 0x1000;
    static final int DOWN = 0x0400;
    static final int UP = 0x0800;
    static final int TOWARDS_0 = 0x0c00;
    static final int[] ROUNDINGS = {0, DOWN, UP, TOWARDS_0};

    static final String ZERO = "0000 0000000000000000";
    static final String MINUS_ZERO = "8000 0000000000000000";
    static final String HALF = "3ffe 8000000000000000";
    static final String ONE = "3fff 8000000000000000";
    static final String MINUS_ONE = "bfff 8000000000000000";
    static final String TWO = "4000 8000000000000000";
    static final String THREE = "4000 c000000000000000";
    static final String SMALL = "0000 0000000000000001";
    static final String MINUS_SMALL = "8000 0000000000000001";
    static final String JUST_BELOW_NORMAL = "0000 7fffffffffffffff";
    static final String LEAST_NORMAL = "0001 8000000000000000";
    static final String GREATEST = "7ffe ffffffffffffffff";
    static final String MINUS_GREATEST = "fffe ffffffffffffffff";
    static final String INFINITE = "7fff 8000000000000000";
    static final String MINUS_INFINITE = "ffff 8000000000000000";
    static final String BARE_INFINITE = "7fff 0000000000000000";
    static final String MINUS_BARE_INFINITE = "ffff 0000000000000000";
    static final String INDEFINITE = "ffff c000000000000000";
    static final String NO_NUMBER = "7fff 8000000000000001";
    static final String UNNORMAL_ONE = "4000 4000000000000000";

    static final String[] NOTHINGS = {
        ZERO, "0001 0000000000000000", "4123 0000000000000000", "7ffe 0000000000000000",
    };
    static final String[] INFINITES = {INFINITE, MINUS_INFINITE, BARE_INFINITE, MINUS_BARE_INFINITE};

    /** Numbers that are no register: beside them, far off, and with the last bits of one that is. */
    static final int[] NO_REGISTERS = {
        -1, 8, 9, 15, 16, -8, 256, 0x10000, 0x10001, Integer.MIN_VALUE, Integer.MAX_VALUE,
    };
    /** Words of more than 16 bits; the last ones have a good word in their lower 16. */
    static final int[] LONG_WORDS = {
        0x10000, 0x1ffff, 0x7fffffff, -1, Integer.MIN_VALUE, 0xffff0000, -32768, 0x1033f, 0x8000033f, 0xffff3fff,
    };

    /** Operations on registers of readyToTell: the i-th tells 2^i alone, if the first three are masked alone. */
    static final int[][] EACH_TELLS_ONE = {
        {BY, 0, 0}, {BY, 0, 3}, {BY, 1, 0}, {PLUS, 4, 4}, {TIMES, 5, 5}, {BY, 1, 2},
    };

    /** What stands in the register of the answer before an operation. */
    static final String UNCHANGED = "4abc 123456789abcdef0";

    private static final int[] BESIDE = {0, 4, 5, 6, 7};
    /** A row makes 36 calls, and an object is good for 512. */
    private static final int ROWS_OF_AN_OBJECT = 14;

    private final List<Sentence> sentences = new ArrayList<>();
    private int wrong = 0;
    private int checkedOfSentence = 1;
    private RealOperations used;
    private int rowsOfUsed = ROWS_OF_AN_OBJECT;

    abstract void run();

    final void runAlone() {
        try {
            run();
            beginSentence();
        } catch (RuntimeException e) {
            fail("a call that should answer threw " + e);
        }
        System.out.println(wrong == 0 ? "all answers are as due" : wrong + " answers are not as due");
        if (wrong != 0) {
            System.exit(1);
        }
    }

    /** The sentences that have been tested up to now. */
    final List<Sentence> sentences() {
        return sentences;
    }

    /** What is checked from here on stands for these words of that place. */
    final void sentence(String place, String words) {
        beginSentence();
        sentences.add(new Sentence(place, words));
    }

    private void beginSentence() {
        if (checkedOfSentence == 0) {
            fail("nothing is checked");
        }
        checkedOfSentence = 0;
    }

    private void fail(String text) {
        wrong++;
        if (!sentences.isEmpty()) {
            Sentence last = sentences.get(sentences.size() - 1);
            System.out.println("[" + last.place() + "] \"" + last.words() + "\"");
        }
        System.out.println("  " + text);
    }

    final void same(String what, long got, long due) {
        checkedOfSentence++;
        if (got != due) {
            fail(what + " answered " + got + ", due is " + due);
        }
    }

    final void same(String what, String got, String due) {
        checkedOfSentence++;
        if (!got.equals(due)) {
            fail(what + " answered " + got + ", due is " + due);
        }
    }

    final void refuses(String what, Class<? extends RuntimeException> due, Call call) {
        String got = "nothing";
        try {
            call.run();
        } catch (RuntimeException e) {
            got = e.getClass().getName();
        }
        same(what + " throws:", got, due.getName());
    }

    final void refusesIndex(String what, Call call) {
        refuses(what, IndexOutOfBoundsException.class, call);
    }

    final void refusesArgument(String what, Call call) {
        refuses(what, IllegalArgumentException.class, call);
    }

    /** One operation on registers 1 and 2, the answer in 3: by a new object, and by one that did others before. */
    final void operation(int control, int operation, String a, String b, int told, String answer) {
        row(new RealOperations(), "", control, operation, new String[] {a, b, answer}, told);
        if (rowsOfUsed == ROWS_OF_AN_OBJECT) {
            used = new RealOperations();
            rowsOfUsed = 0;
        }
        rowsOfUsed++;
        used.clear();
        row(used, "used, ", control, operation, new String[] {a, b, answer}, told);
    }

    private void row(RealOperations x, String before, int control, int operation, String[] reals, int told) {
        x.control(control);
        for (int r : BESIDE) {
            put(x, r, beside(r));
        }
        put(x, 1, reals[0]);
        put(x, 2, reals[1]);
        put(x, 3, UNCHANGED);
        String what = before + String.format("control %04x: operation %d on %s and %s",
                control, operation, reals[0], reals[1]);
        same(what + " tells:", x.operate(operation, 1, 2, 3), told);
        same(what, shown(x, 3), reals[2]);
        same(what + ", told():", x.told(), told);
        same(what + ", a after it", shown(x, 1), reals[0]);
        same(what + ", b after it", shown(x, 2), reals[1]);
        for (int r : BESIDE) {
            same(what + ", register " + r + " after it", shown(x, r), beside(r));
        }
    }

    private static String beside(int r) {
        return "400" + r + " 900000000000000" + r;
    }

    /** An operation with all masked, of 64 digits, by either view of what is infinite. */
    final void byBothViews(int operation, String a, String b, int told, String answer) {
        operation(MASKED, operation, a, b, told, answer);
        operation(MASKED | TWO_INFINITES, operation, a, b, told, answer);
    }

    /** a + b, as each operation that can make it. */
    final void sum(int control, String a, String b, int told, String answer) {
        operation(control, PLUS, a, b, told, answer);
        operation(control, PLUS, b, a, told, answer);
        operation(control, MINUS, a, minus(b), told, answer);
        operation(control, MINUS_BACKWARDS, minus(a), b, told, answer);
    }

    final void product(int control, String a, String b, int told, String answer) {
        operation(control, TIMES, a, b, told, answer);
        operation(control, TIMES, b, a, told, answer);
    }

    final void quotient(int control, String a, String b, int told, String answer) {
        operation(control, BY, a, b, told, answer);
        operation(control, BY_BACKWARDS, b, a, told, answer);
    }

    final void root(int control, String a, int told, String answer) {
        operation(control, ROOT, a, ONE, told, answer);
    }

    /** The four roundings of a + b, which is not a real, and of the same with both signs turned. */
    final void sums(int control, String a, String b, String nearest, String below, String above) {
        sum(control, a, b, LOSS, nearest);
        sum(control | DOWN, a, b, LOSS, below);
        sum(control | UP, a, b, LOSS, above);
        sum(control | TOWARDS_0, a, b, LOSS, below);
        sum(control, minus(a), minus(b), LOSS, minus(nearest));
        sum(control | DOWN, minus(a), minus(b), LOSS, minus(above));
        sum(control | UP, minus(a), minus(b), LOSS, minus(below));
        sum(control | TOWARDS_0, minus(a), minus(b), LOSS, minus(below));
    }

    /** An object whose registers are 0, 1, 3, the least real, 2^16383, 2^-16382, 0 and 0. */
    static RealOperations readyToTell(int control) {
        RealOperations x = new RealOperations();
        x.control(control);
        put(x, 1, ONE);
        put(x, 2, THREE);
        put(x, 3, SMALL);
        put(x, 4, "7ffe 8000000000000000");
        put(x, 5, LEAST_NORMAL);
        return x;
    }

    /** A real is written as its top and its fraction, both in hex. */
    static void put(RealOperations x, int r, String real) {
        long f = new BigInteger(real.substring(5), 16).longValue();
        x.set(r, Integer.parseInt(real.substring(0, 4), 16), (int) (f >>> 32), (int) f);
    }

    static String shown(RealOperations x, int r) {
        return real(x.part(r, 0), (long) x.part(r, 1) << 32 | x.part(r, 2) & 0xffffffffL);
    }

    static String real(int top, long fraction) {
        return String.format("%04x %016x", top, fraction);
    }

    static String minus(String real) {
        return real(Integer.parseInt(real.substring(0, 4), 16) ^ 0x8000, fraction(real));
    }

    static boolean isMinus(String real) {
        return real.charAt(0) >= '8';
    }

    static long fraction(String real) {
        return Long.parseUnsignedLong(real.substring(5), 16);
    }
}
