/** Promise 5, "to make a real": rounding, what is too great, what is too small, at their edges. */
public final class MakeTest {
    private static final Checks CHECKS = new Checks();

    private static final int DOWN = Checks.ROUND_DOWN;
    private static final int UP = Checks.ROUND_UP;
    private static final int TO_0 = Checks.ROUND_TO_0;
    private static final int LOSS = Checks.LOSS;
    private static final int OVER = Checks.OVER;
    private static final int UNDER = Checks.UNDER;
    private static final int OPEN_OVER = Checks.MASKED & ~OVER;
    private static final int OPEN_UNDER = Checks.MASKED & ~UNDER;

    private static final String ZERO = "0000 0000000000000000";
    private static final String MINUS_ZERO = "8000 0000000000000000";
    private static final String ONE = "3fff 8000000000000000";
    private static final String TWO = "4000 8000000000000000";
    private static final String HALF = "3ffe 8000000000000000";
    private static final String INFINITE = "7fff 8000000000000000";
    private static final String MINUS_INFINITE = "ffff 8000000000000000";
    private static final String GREATEST = "7ffe ffffffffffffffff";
    private static final String MINUS_GREATEST = "fffe ffffffffffffffff";
    private static final String LEAST_NORMAL = "0001 8000000000000000";
    private static final String JUST_BELOW_NORMAL = "0000 7fffffffffffffff";
    private static final String SMALL = "0000 0000000000000001";

    public static void main(String[] args) {
        halves();
        halvesOf24And53();
        farApart();
        cancelled();
        carries();
        tooGreat();
        tooGreatNotMasked();
        tooSmall();
        tooSmallOf24();
        tooSmallNotMasked();
        CHECKS.end();
    }

    private static void sum(int control, String a, String b, int told, String answer) {
        CHECKS.operation(control, Checks.PLUS, a, b, told, answer);
        CHECKS.operation(control, Checks.PLUS, b, a, told, answer);
    }

    private static void product(int control, String a, String b, int told, String answer) {
        CHECKS.operation(control, Checks.TIMES, a, b, told, answer);
        CHECKS.operation(control, Checks.TIMES, b, a, told, answer);
    }

    private static String minus(String real) {
        return String.format("%04x", Integer.parseInt(real.substring(0, 4), 16) ^ 0x8000) + real.substring(4);
    }

    /** The four roundings of a + b, and of the same with both signs turned. */
    private static void sums(int control, String a, String b, String nearest, String below, String above) {
        sum(control, a, b, LOSS, nearest);
        sum(control | DOWN, a, b, LOSS, below);
        sum(control | UP, a, b, LOSS, above);
        sum(control | TO_0, a, b, LOSS, below);
        sum(control, minus(a), minus(b), LOSS, minus(nearest));
        sum(control | DOWN, minus(a), minus(b), LOSS, minus(above));
        sum(control | UP, minus(a), minus(b), LOSS, minus(below));
        sum(control | TO_0, minus(a), minus(b), LOSS, minus(below));
    }

    private static void halves() {
        String even = "3fff 8000000000000002";
        String odd = "3fff 8000000000000003";
        String next = "3fff 8000000000000004";
        sums(Checks.MASKED, even, "3fbf 8000000000000000", even, even, odd);
        sums(Checks.MASKED, odd, "3fbf 8000000000000000", next, odd, next);
        sums(Checks.MASKED, even, "3fbf 8000000000000001", odd, even, odd);
        sums(Checks.MASKED, even, "3fbe ffffffffffffffff", even, even, odd);
        sums(Checks.MASKED, odd, "3fbe ffffffffffffffff", odd, odd, next);
        sum(Checks.MASKED, even, "3fc0 8000000000000000", 0, odd);
    }

    private static void halvesOf24And53() {
        String low = "3fff 8000000000000000";
        sums(Checks.MASKED_24, low, "3fe7 8000000000000000", low, low, "3fff 8000010000000000");
        sums(Checks.MASKED_24, "3fff 8000010000000000", "3fe7 8000000000000000",
                "3fff 8000020000000000", "3fff 8000010000000000", "3fff 8000020000000000");
        sums(Checks.MASKED_24, low, "3fe7 8000000000000001", "3fff 8000010000000000", low, "3fff 8000010000000000");
        sums(Checks.MASKED_53, low, "3fca 8000000000000000", low, low, "3fff 8000000000000800");
        sums(Checks.MASKED_53, "3fff 8000000000000800", "3fca 8000000000000000",
                "3fff 8000000000001000", "3fff 8000000000000800", "3fff 8000000000001000");
        // An operand of more digits is rounded though nothing is added to it.
        sum(Checks.MASKED_24, "3fff 80000080000000ff", ZERO, LOSS, "3fff 8000010000000000");
        sum(Checks.MASKED_53, "3fff 8000000000000400", ZERO, LOSS, "3fff 8000000000000000");
        CHECKS.operation(Checks.MASKED_24, Checks.ROOT, TWO, ZERO, LOSS, "3fff b504f30000000000");
        CHECKS.operation(Checks.MASKED_24 | UP, Checks.ROOT, TWO, ZERO, LOSS, "3fff b504f40000000000");
    }

    private static void farApart() {
        sums(Checks.MASKED, ONE, "0001 8000000000000000", ONE, ONE, "3fff 8000000000000001");
        sums(Checks.MASKED, "7ffe 8000000000000000", "0001 8000000000000000",
                "7ffe 8000000000000000", "7ffe 8000000000000000", "7ffe 8000000000000001");
        sums(Checks.MASKED, ONE, "bf00 8000000000000000", ONE, "3ffe ffffffffffffffff", ONE);
        sums(Checks.MASKED, "3fff 8000000000000001", "bf00 8000000000000000",
                "3fff 8000000000000001", ONE, "3fff 8000000000000001");
        // Around the half that lies below 1.
        sums(Checks.MASKED, ONE, "bfbe 8000000000000000", ONE, "3ffe ffffffffffffffff", ONE);
        sums(Checks.MASKED, ONE, "bfbe 8000000000000001", "3ffe ffffffffffffffff", "3ffe ffffffffffffffff", ONE);
        sums(Checks.MASKED, ONE, "bfbd ffffffffffffffff", ONE, "3ffe ffffffffffffffff", ONE);
        sum(Checks.MASKED, ONE, "bfbf 8000000000000000", 0, "3ffe ffffffffffffffff");
    }

    private static void cancelled() {
        sum(Checks.MASKED, "3fff 8000000000000001", "bfff 8000000000000000", 0, "3fc0 8000000000000000");
        sum(Checks.MASKED, "4000 8000000000000000", "bfff ffffffffffffffff", 0, "3fc0 8000000000000000");
        sum(Checks.MASKED, "0001 8000000000000001", "8001 8000000000000000", 0, SMALL);
        sum(Checks.MASKED, "3fff ffffffffffffffff", "c000 8000000000000000", 0, "bfc0 8000000000000000");
    }

    private static void carries() {
        sums(Checks.MASKED, "3fff ffffffffffffffff", "3fbf 8000000000000000",
                TWO, "3fff ffffffffffffffff", TWO);
        sum(Checks.MASKED, "3fff ffffffffffffffff", "3fff ffffffffffffffff", 0, "4000 ffffffffffffffff");
        sum(Checks.MASKED_24, "3fff ffffff8000000000", ZERO, LOSS, TWO);
        sum(Checks.MASKED_53 | UP, "3fff fffffffffffff801", ZERO, LOSS, TWO);
        product(Checks.MASKED, "3fff ffffffffffffffff", "3fff ffffffffffffffff", LOSS, "4000 fffffffffffffffe");
        product(Checks.MASKED | UP, "3fff ffffffffffffffff", "3fff ffffffffffffffff", LOSS, "4000 ffffffffffffffff");
        CHECKS.operation(Checks.MASKED, Checks.ROOT, "3fff ffffffffffffffff", ZERO, LOSS, "3fff b504f333f9de6484");
        CHECKS.operation(Checks.MASKED, Checks.ROOT, "4000 ffffffffffffffff", ZERO, LOSS, "3fff ffffffffffffffff");
        CHECKS.operation(Checks.MASKED | UP, Checks.ROOT, "4000 ffffffffffffffff", ZERO, LOSS, TWO);
        CHECKS.operation(Checks.MASKED | UP, Checks.ROOT, "3fff 8000000000000001", ZERO, LOSS, "3fff 8000000000000001");
        CHECKS.operation(Checks.MASKED, Checks.ROOT, "3fff 8000000000000001", ZERO, LOSS, ONE);
    }

    private static void tooGreat() {
        sum(Checks.MASKED, GREATEST, "7fbe 8000000000000000", OVER | LOSS, INFINITE);
        sum(Checks.MASKED, GREATEST, "7fbd ffffffffffffffff", LOSS, GREATEST);
        sum(Checks.MASKED | UP, GREATEST, SMALL, Checks.DENORMAL | OVER | LOSS, INFINITE);
        sum(Checks.MASKED | DOWN, GREATEST, "7fbe ffffffffffffffff", LOSS, GREATEST);
        sum(Checks.MASKED | TO_0, MINUS_GREATEST, "ffbe ffffffffffffffff", LOSS, MINUS_GREATEST);
        // Just 2^16384: nothing is lost by rounding, but it is told.
        product(Checks.MASKED, "7ffe 8000000000000000", TWO, OVER | LOSS, INFINITE);
        product(Checks.MASKED, "fffe 8000000000000000", TWO, OVER | LOSS, MINUS_INFINITE);
        product(Checks.MASKED | DOWN, "7ffe 8000000000000000", TWO, OVER | LOSS, GREATEST);
        product(Checks.MASKED | DOWN, "fffe 8000000000000000", TWO, OVER | LOSS, MINUS_INFINITE);
        product(Checks.MASKED | UP, "7ffe 8000000000000000", TWO, OVER | LOSS, INFINITE);
        product(Checks.MASKED | UP, "fffe 8000000000000000", TWO, OVER | LOSS, MINUS_GREATEST);
        product(Checks.MASKED | TO_0, "7ffe 8000000000000000", TWO, OVER | LOSS, GREATEST);
        product(Checks.MASKED | TO_0, "fffe 8000000000000000", TWO, OVER | LOSS, MINUS_GREATEST);
        product(Checks.MASKED_24 | TO_0, GREATEST, GREATEST, OVER | LOSS, "7ffe ffffff0000000000");
        product(Checks.MASKED_53 | DOWN, GREATEST, GREATEST, OVER | LOSS, "7ffe fffffffffffff800");
        sum(Checks.MASKED_24, GREATEST, ZERO, OVER | LOSS, INFINITE);
        sum(Checks.MASKED_24 | DOWN, GREATEST, ZERO, LOSS, "7ffe ffffff0000000000");
        CHECKS.operation(Checks.MASKED, Checks.BY, GREATEST, HALF, OVER | LOSS, INFINITE);
        CHECKS.operation(Checks.MASKED, Checks.BY, GREATEST, SMALL, Checks.DENORMAL | OVER | LOSS, INFINITE);
    }

    private static void tooGreatNotMasked() {
        product(OPEN_OVER, "7ffe 8000000000000000", TWO, OVER, "1fff 8000000000000000");
        product(OPEN_OVER, "fffe 8000000000000000", TWO, OVER, "9fff 8000000000000000");
        product(OPEN_OVER, GREATEST, GREATEST, OVER | LOSS, "5ffe fffffffffffffffe");
        product(OPEN_OVER | UP, GREATEST, GREATEST, OVER | LOSS, "5ffe ffffffffffffffff");
        sum(OPEN_OVER, GREATEST, "7fbe 8000000000000000", OVER | LOSS, "1fff 8000000000000000");
        sum(OPEN_OVER, GREATEST, GREATEST, OVER, "1fff ffffffffffffffff");
        sum(OPEN_OVER | DOWN, GREATEST, "7fbe 8000000000000000", LOSS, GREATEST);
        CHECKS.operation(OPEN_OVER, Checks.BY, GREATEST, SMALL, Checks.DENORMAL | OVER, "603b ffffffffffffffff");
        sum(Checks.MASKED_24 & ~OVER, GREATEST, ZERO, OVER | LOSS, "1fff 8000000000000000");
    }

    private static void tooSmall() {
        product(Checks.MASKED, LEAST_NORMAL, HALF, 0, "0000 4000000000000000");
        product(Checks.MASKED, "0001 8000000000000001", HALF, UNDER | LOSS, "0000 4000000000000000");
        product(Checks.MASKED | UP, "0001 8000000000000001", HALF, UNDER | LOSS, "0000 4000000000000001");
        product(Checks.MASKED, "0001 8000000000000003", HALF, UNDER | LOSS, "0000 4000000000000002");
        // Rounded up to the least normal real, it was too small all the same.
        product(Checks.MASKED, "0001 ffffffffffffffff", HALF, UNDER | LOSS, LEAST_NORMAL);
        product(Checks.MASKED | TO_0, "0001 ffffffffffffffff", HALF, UNDER | LOSS, JUST_BELOW_NORMAL);
        product(Checks.MASKED | DOWN, "8001 ffffffffffffffff", HALF, UNDER | LOSS, "8001 8000000000000000");
        product(Checks.MASKED, LEAST_NORMAL, LEAST_NORMAL, UNDER | LOSS, ZERO);
        product(Checks.MASKED, minus(LEAST_NORMAL), LEAST_NORMAL, UNDER | LOSS, MINUS_ZERO);
        product(Checks.MASKED | UP, LEAST_NORMAL, LEAST_NORMAL, UNDER | LOSS, SMALL);
        product(Checks.MASKED | UP, minus(LEAST_NORMAL), LEAST_NORMAL, UNDER | LOSS, MINUS_ZERO);
        product(Checks.MASKED | DOWN, minus(LEAST_NORMAL), LEAST_NORMAL, UNDER | LOSS, minus(SMALL));
        // A half of the least real, just below it and just above it.
        product(Checks.MASKED, LEAST_NORMAL, "3fbf 8000000000000000", UNDER | LOSS, ZERO);
        product(Checks.MASKED, LEAST_NORMAL, "3fbf 8000000000000001", UNDER | LOSS, SMALL);
        product(Checks.MASKED, LEAST_NORMAL, "3fbe ffffffffffffffff", UNDER | LOSS, ZERO);
        product(Checks.MASKED, LEAST_NORMAL, "3fc0 8000000000000000", 0, SMALL);
        product(Checks.MASKED, LEAST_NORMAL, "3fc0 c000000000000000", UNDER | LOSS, "0000 0000000000000002");
        sum(Checks.MASKED, JUST_BELOW_NORMAL, SMALL, Checks.DENORMAL, LEAST_NORMAL);
        CHECKS.operation(Checks.MASKED, Checks.BY, SMALL, GREATEST, Checks.DENORMAL | UNDER | LOSS, ZERO);
        CHECKS.operation(Checks.MASKED | UP, Checks.BY, SMALL, GREATEST, Checks.DENORMAL | UNDER | LOSS, SMALL);
    }

    private static void tooSmallOf24() {
        product(Checks.MASKED_24, LEAST_NORMAL, HALF, 0, "0000 4000000000000000");
        product(Checks.MASKED_24, "0001 8000010000000000", HALF, UNDER | LOSS, "0000 4000000000000000");
        product(Checks.MASKED_24 | UP, "0001 8000010000000000", HALF, UNDER | LOSS, "0000 4000010000000000");
        sum(Checks.MASKED_24, SMALL, ZERO, Checks.DENORMAL | UNDER | LOSS, ZERO);
        sum(Checks.MASKED_24 | UP, SMALL, ZERO, Checks.DENORMAL | UNDER | LOSS, "0000 0000010000000000");
        sum(Checks.MASKED_53 | UP, SMALL, ZERO, Checks.DENORMAL | UNDER | LOSS, "0000 0000000000000800");
        sum(Checks.MASKED_24, "0000 0000008000000000", ZERO, Checks.DENORMAL | UNDER | LOSS, ZERO);
        sum(Checks.MASKED_24, "0000 0000008000000001", ZERO, Checks.DENORMAL | UNDER | LOSS, "0000 0000010000000000");
        sum(Checks.MASKED_24, "0000 0000018000000000", ZERO, Checks.DENORMAL | UNDER | LOSS, "0000 0000020000000000");
        sum(Checks.MASKED_24, JUST_BELOW_NORMAL, ZERO, Checks.DENORMAL | UNDER | LOSS, LEAST_NORMAL);
        // From the least normal real on only LOSS is told.
        sum(Checks.MASKED_24, "0001 8000000000000001", ZERO, LOSS, LEAST_NORMAL);
        sum(Checks.MASKED_24, "0000 8000000000000001", ZERO, Checks.DENORMAL | LOSS, LEAST_NORMAL);
    }

    private static void tooSmallNotMasked() {
        product(OPEN_UNDER, LEAST_NORMAL, HALF, UNDER, "6000 8000000000000000");
        product(OPEN_UNDER, minus(LEAST_NORMAL), HALF, UNDER, "e000 8000000000000000");
        product(OPEN_UNDER, "0001 ffffffffffffffff", HALF, UNDER, "6000 ffffffffffffffff");
        product(OPEN_UNDER, LEAST_NORMAL, LEAST_NORMAL, UNDER, "2003 8000000000000000");
        product(OPEN_UNDER, "0001 8000000000000001", "0001 8000000000000001", UNDER | LOSS, "2003 8000000000000002");
        product(OPEN_UNDER, SMALL, SMALL, Checks.DENORMAL | UNDER, "1f85 8000000000000000");
        sum(OPEN_UNDER, SMALL, ZERO, Checks.DENORMAL | UNDER, "5fc2 8000000000000000");
        sum(OPEN_UNDER, SMALL, JUST_BELOW_NORMAL, Checks.DENORMAL, LEAST_NORMAL);
        // Rounded up to the least normal real, it was too small all the same.
        sum(Checks.MASKED_24 & ~UNDER, JUST_BELOW_NORMAL, ZERO, Checks.DENORMAL | UNDER | LOSS, "6001 8000000000000000");
        sum(Checks.MASKED_24 & ~UNDER | TO_0, JUST_BELOW_NORMAL, ZERO,
                Checks.DENORMAL | UNDER | LOSS, "6000 ffffff0000000000");
        sum(Checks.MASKED_24 & ~UNDER, SMALL, ZERO, Checks.DENORMAL | UNDER, "5fc2 8000000000000000");
    }
}
