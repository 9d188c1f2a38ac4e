/** The term "the control": what each of its bits does, and which do nothing. */
public final class ControlWordTest extends Sentences {
    private static final String THIRDS = "3fff aaaaaaaaaaaaaaab";
    /** The exact root of two goes on with 597d...: it is rounded down to 64 digits. */
    private static final String ROOT_OF_TWO = "3fff b504f333f9de6484";
    private static final String GREAT = "7ffe 8000000000000000";
    private static final int OTHERS = 0xe0c0;

    public static void main(String[] args) {
        new ControlWordTest().runAlone();
    }

    @Override
    void run() {
        sixteenBits();
        masks();
        maskOfLoss();
        precision();
        nearest();
        tie();
        down();
        up();
        towardsZero();
        oneInfinite();
        twoInfinites();
        others();
    }

    private void sixteenBits() {
        sentence(THE_CONTROL, "THE CONTROL is a word of 16 bits.");
        quotient(0xffff, ONE, THREE, LOSS, "3ffd aaaaaaaaaaaaaaaa");
        sum(0xffff, INFINITE, INFINITE, 0, INFINITE);
        quotient(0x8000, ONE, THREE, LOSS, "3ffd aaaaab0000000000");
        quotient(0x0000, ONE, THREE, LOSS, "3ffd aaaaab0000000000");
        RealOperations x = new RealOperations();
        refusesArgument("control(0x10000)", () -> x.control(0x10000));
        refusesArgument("control(-1)", () -> x.control(-1));
    }

    /** Each mask alone, and all the others without it. */
    private void masks() {
        sentence(THE_CONTROL, "Bits 0 to 5 are the MASKS (1: masked) of INVALID 1");
        quotient(0x033e, ZERO, ZERO, INVALID, UNCHANGED);
        quotient(0x0301, ZERO, ZERO, INVALID, INDEFINITE);
        sentence(THE_CONTROL, "DENORMAL 2");
        sum(0x033d, SMALL, ONE, DENORMAL, UNCHANGED);
        sum(0x0302, SMALL, ONE, DENORMAL | LOSS, ONE);
        sentence(THE_CONTROL, "DIVISION 4");
        quotient(0x033b, ONE, ZERO, DIVISION, UNCHANGED);
        quotient(0x0304, ONE, ZERO, DIVISION, INFINITE);
        sentence(THE_CONTROL, "OVER 8");
        product(0x0337, GREAT, TWO, OVER, "1fff 8000000000000000");
        product(0x0308, GREAT, TWO, OVER | LOSS, INFINITE);
        sentence(THE_CONTROL, "UNDER 16");
        product(0x032f, LEAST_NORMAL, HALF, UNDER, "6000 8000000000000000");
        product(0x0310, LEAST_NORMAL, HALF, 0, "0000 4000000000000000");
    }

    private void maskOfLoss() {
        sentence(THE_CONTROL, "LOSS 32 (that of LOSS changes nothing here)");
        for (int mask : new int[] {0, LOSS}) {
            quotient(0x0300 | mask, ONE, THREE, LOSS, "3ffd aaaaaaaaaaaaaaab");
            quotient(0x031f | mask, ONE, THREE, LOSS, "3ffd aaaaaaaaaaaaaaab");
            quotient(0x031f | mask | UP, MINUS_ONE, THREE, LOSS, "bffd aaaaaaaaaaaaaaaa");
            root(0x031f | mask, TWO, LOSS, ROOT_OF_TWO);
            product(0x031f | mask, GREAT, TWO, OVER | LOSS, INFINITE);
            product(0x031f | mask, LEAST_NORMAL, LEAST_NORMAL, UNDER | LOSS, ZERO);
            product(0x0300 | mask, GREATEST, GREATEST, OVER | LOSS, "5ffe fffffffffffffffe");
            sum(0x0000 | mask, ONE, "3fc0 8000000000000000", LOSS, ONE);
        }
    }

    private void precision() {
        sentence(THE_CONTROL, "bits 8 and 9 the PRECISION n: 24 digits for 0");
        eachOperation(0x003f, LOSS, "3fff aaaaab0000000000", "3fff b504f30000000000");
        sentence(THE_CONTROL, "53 for 2");
        eachOperation(0x023f, LOSS, "3fff aaaaaaaaaaaaa800", "3fff b504f333f9de6800");
        sentence(THE_CONTROL, "64 for 1 and 3");
        eachOperation(0x013f, 0, THIRDS, ROOT_OF_TWO);
        eachOperation(0x033f, 0, THIRDS, ROOT_OF_TWO);
    }

    /** Each operation leaves a number of 64 digits or more to be rounded. */
    private void eachOperation(int control, int told, String thirds, String rootOfTwo) {
        sum(control, THIRDS, ZERO, told, thirds);
        product(control, THIRDS, ONE, told, thirds);
        quotient(control, THIRDS, ONE, told, thirds);
        root(control, TWO, LOSS, rootOfTwo);
    }

    private void nearest() {
        sentence(THE_CONTROL, "bits 10 and 11 the ROUNDING: 0 to the nearest");
        thirdsAndRoot(0, "aaaaaaaaaaaaaaab", "aaaaaaaaaaaaaaab", "b504f333f9de6484");
        // Five thirds: the nearest is below.
        quotient(MASKED, "4001 a000000000000000", THREE, LOSS, "3fff d555555555555555");
    }

    private void tie() {
        sentence(THE_CONTROL, "(of two that are as near that whose last digit is 0)");
        String even = "3fff 8000000000000002";
        String odd = "3fff 8000000000000003";
        sum(MASKED, even, "3fbf 8000000000000000", LOSS, even);
        sum(MASKED, odd, "3fbf 8000000000000000", LOSS, "3fff 8000000000000004");
        sum(MASKED, minus(even), "bfbf 8000000000000000", LOSS, minus(even));
        sum(MASKED, minus(odd), "bfbf 8000000000000000", LOSS, "bfff 8000000000000004");
        sum(MASKED, even, "bfbf 8000000000000000", LOSS, even);
        sum(MASKED, odd, "bfbf 8000000000000000", LOSS, even);
        sum(MASKED, "3fff ffffffffffffffff", "3fbf 8000000000000000", LOSS, TWO);
        sum(MASKED_24, "3fff 8000008000000000", ZERO, LOSS, ONE);
        sum(MASKED_24, "3fff 8000018000000000", ZERO, LOSS, "3fff 8000020000000000");
        sum(MASKED_53, "3fff 8000000000000400", ZERO, LOSS, ONE);
        sum(MASKED_53, "3fff 8000000000000c00", ZERO, LOSS, "3fff 8000000000001000");
        product(MASKED, "3fff 8000000000000001", "3fff c000000000000000", LOSS, "3fff c000000000000002");
        product(MASKED, "3fff 8000000000000003", "3fff c000000000000000", LOSS, "3fff c000000000000004");
        quotient(MASKED_24, "3fff 8000018000000000", ONE, LOSS, "3fff 8000020000000000");
        // Where just a half of the least unit is to be rounded, and one and a half.
        product(MASKED, SMALL, HALF, DENORMAL | UNDER | LOSS, ZERO);
        product(MASKED, "0000 0000000000000003", HALF, DENORMAL | UNDER | LOSS, "0000 0000000000000002");
        // As little as can be beside a half, the nearer one is taken.
        sum(MASKED, even, "3fbf 8000000000000001", LOSS, odd);
        sum(MASKED, odd, "3fbe ffffffffffffffff", LOSS, odd);
    }

    private void down() {
        sentence(THE_CONTROL, "1 down");
        thirdsAndRoot(DOWN, "aaaaaaaaaaaaaaaa", "aaaaaaaaaaaaaaab", "b504f333f9de6484");
    }

    private void up() {
        sentence(THE_CONTROL, "2 up");
        thirdsAndRoot(UP, "aaaaaaaaaaaaaaab", "aaaaaaaaaaaaaaaa", "b504f333f9de6485");
    }

    private void towardsZero() {
        sentence(THE_CONTROL, "3 towards 0");
        thirdsAndRoot(TOWARDS_0, "aaaaaaaaaaaaaaaa", "aaaaaaaaaaaaaaaa", "b504f333f9de6484");
    }

    /** The fractions of 1 / 3, of -1 / 3 and of the root of 2. */
    private void thirdsAndRoot(int rounding, String plusThird, String minusThird, String rootOfTwo) {
        for (int rest : new int[] {0x033f, 0x0300, 0x113f}) {
            quotient(rest | rounding, ONE, THREE, LOSS, "3ffd " + plusThird);
            quotient(rest | rounding, MINUS_ONE, THREE, LOSS, "bffd " + minusThird);
            root(rest | rounding, TWO, LOSS, "3fff " + rootOfTwo);
        }
    }

    private void oneInfinite() {
        sentence(THE_CONTROL, "bit 12 the VIEW: 0 one infinite number alone");
        for (int control : new int[] {0x033f, 0xefff, 0x0001}) {
            sum(control, INFINITE, INFINITE, INVALID, INDEFINITE);
            sum(control, MINUS_INFINITE, MINUS_INFINITE, INVALID, INDEFINITE);
            sum(control, INFINITE, MINUS_INFINITE, INVALID, INDEFINITE);
            root(control, INFINITE, INVALID, INDEFINITE);
        }
    }

    private void twoInfinites() {
        sentence(THE_CONTROL, "1 two of them.");
        for (int control : new int[] {0x133f, 0xffff, 0x1001}) {
            sum(control, INFINITE, INFINITE, 0, INFINITE);
            sum(control, MINUS_INFINITE, MINUS_INFINITE, 0, MINUS_INFINITE);
            sum(control, INFINITE, MINUS_INFINITE, INVALID, INDEFINITE);
            root(control, INFINITE, 0, INFINITE);
        }
    }

    private void others() {
        sentence(THE_CONTROL, "Others do not count.");
        for (int word = 0; word <= 0xffff; word++) {
            if ((word & OTHERS) != 0) {
                same("all operations by control " + Integer.toHexString(word), trace(word), trace(word & ~OTHERS));
            }
        }
    }

    /** A number that is made of all that a new object answers by a control. */
    private static long trace(int word) {
        RealOperations x = new RealOperations();
        x.control(word);
        x.set(0, 0x3fff, 0x80000000, 0);
        x.set(1, 0xc000, 0xc0000000, 0);
        x.set(2, 0x7fff, 0x80000000, 0);
        x.set(3, 0, 0, 1);
        x.set(4, 0x7ffe, -1, -1);
        long trace = 0;
        trace = traceOf(x, trace, BY, 0, 1);
        trace = traceOf(x, trace, BY_BACKWARDS, 0, 5);
        trace = traceOf(x, trace, PLUS, 2, 2);
        trace = traceOf(x, trace, BY, 5, 5);
        trace = traceOf(x, trace, BY, 0, 5);
        trace = traceOf(x, trace, TIMES, 3, 3);
        trace = traceOf(x, trace, TIMES, 4, 4);
        trace = traceOf(x, trace, ROOT, 2, 0);
        x.set(3, 1, 0x80000000, 1);
        return traceOf(x, trace, TIMES, 3, 3);
    }

    private static long traceOf(RealOperations x, long before, int operation, int a, int b) {
        x.set(6, 0, 0, 0);
        long trace = before * 1000003 + x.operate(operation, a, b, 6);
        for (int what = 0; what < 3; what++) {
            trace = trace * 1000003 + x.part(6, what);
        }
        return trace;
    }
}
