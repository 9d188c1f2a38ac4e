/** The term "to round": the number itself, or the next one on the side that rounding and sign say. */
public final class RoundTest extends Sentences {
    private static final String EVEN = "3fff 8000000000000002";
    private static final String ODD = "3fff 8000000000000003";
    private static final String NEXT_EVEN = "3fff 8000000000000004";

    public static void main(String[] args) {
        new RoundTest().runAlone();
    }

    @Override
    void run() {
        itself();
        justBelowOrAbove();
        of24And53Digits();
        farApart();
        productsQuotientsAndRoots();
        downWithMinus();
    }

    private void itself() {
        sentence(TO_ROUND, "TO ROUND a size x > 0 to a UNIT 2^q with a sign is to take a multiple of the unit: x itself");
        for (int rounding : ROUNDINGS) {
            staysItself(MASKED_24 | rounding, "3fff 8000010000000000");
            staysItself(MASKED_24 | rounding, "3fff ffffff0000000000");
            staysItself(MASKED_53 | rounding, "3fff 8000000000000800");
            staysItself(MASKED_53 | rounding, "3fff fffffffffffff800");
            staysItself(MASKED | rounding, "3fff 8000000000000001");
            staysItself(MASKED | rounding, "3fff ffffffffffffffff");
            sum(MASKED | rounding, EVEN, "3fc0 8000000000000000", 0, ODD);
            sum(MASKED | rounding, ONE, "bfbf 8000000000000000", 0, "3ffe ffffffffffffffff");
            sum(MASKED | rounding, "3fff ffffffffffffffff", "3fff ffffffffffffffff", 0, "4000 ffffffffffffffff");
            product(MASKED | rounding, "3fff ffffffff00000000", "3fff ffffffff00000000", 0, "4000 fffffffe00000001");
            quotient(MASKED | rounding, "4000 fffffffe00000001", "3fff ffffffff00000000", 0, "3fff ffffffff00000000");
            root(MASKED | rounding, "4000 fffffffe00000001", 0, "3fff ffffffff00000000");
            root(MASKED | rounding, "4001 8000000000000000", 0, TWO);
        }
    }

    private void staysItself(int control, String real) {
        sum(control, real, ZERO, 0, real);
        sum(control, minus(real), ZERO, 0, minus(real));
        product(control, real, ONE, 0, real);
        quotient(control, real, MINUS_ONE, 0, minus(real));
    }

    private void justBelowOrAbove() {
        sentence(TO_ROUND, ", or that just below or just above it, as rounding and sign say");
        sums(MASKED, EVEN, "3fbf 8000000000000000", EVEN, EVEN, ODD);
        sums(MASKED, ODD, "3fbf 8000000000000000", NEXT_EVEN, ODD, NEXT_EVEN);
        sums(MASKED, EVEN, "3fbf 8000000000000001", ODD, EVEN, ODD);
        sums(MASKED, EVEN, "3fbe ffffffffffffffff", EVEN, EVEN, ODD);
        sums(MASKED, ODD, "3fbe ffffffffffffffff", ODD, ODD, NEXT_EVEN);
        // All digits carry.
        sums(MASKED, "3fff ffffffffffffffff", "3fbf 8000000000000000", TWO, "3fff ffffffffffffffff", TWO);
        sums(MASKED, "3fff ffffffffffffffff", "3fbe ffffffffffffffff",
                "3fff ffffffffffffffff", "3fff ffffffffffffffff", TWO);
    }

    private void of24And53Digits() {
        sums(MASKED_24, ONE, "3fe7 8000000000000000", ONE, ONE, "3fff 8000010000000000");
        sums(MASKED_24, "3fff 8000010000000000", "3fe7 8000000000000000",
                "3fff 8000020000000000", "3fff 8000010000000000", "3fff 8000020000000000");
        sums(MASKED_24, ONE, "3fe7 8000000000000001", "3fff 8000010000000000", ONE, "3fff 8000010000000000");
        sums(MASKED_53, ONE, "3fca 8000000000000000", ONE, ONE, "3fff 8000000000000800");
        sums(MASKED_53, "3fff 8000000000000800", "3fca 8000000000000000",
                "3fff 8000000000001000", "3fff 8000000000000800", "3fff 8000000000001000");
        sums(MASKED_53, ONE, "3fca 8000000000000001", "3fff 8000000000000800", ONE, "3fff 8000000000000800");
        // An operand of more digits is rounded though nothing is put to it.
        sums(MASKED_24, "3fff 80000080000000ff", ZERO, "3fff 8000010000000000", ONE, "3fff 8000010000000000");
        sums(MASKED_24, "3fff ffffff8000000000", ZERO, TWO, "3fff ffffff0000000000", TWO);
        sums(MASKED_53, "3fff fffffffffffffc00", ZERO, TWO, "3fff fffffffffffff800", TWO);
        sums(MASKED_53, "3fff fffffffffffff801", ZERO, "3fff fffffffffffff800", "3fff fffffffffffff800", TWO);
        // 24 digits are not rounded to 64 before: only then would these be just a half.
        sums(MASKED_24, "3fff 8000008000000000", "3f80 8000000000000000",
                "3fff 8000010000000000", ONE, "3fff 8000010000000000");
        sums(MASKED_24, "3fff 8000018000000000", "bf80 8000000000000000",
                "3fff 8000010000000000", "3fff 8000010000000000", "3fff 8000020000000000");
    }

    private void farApart() {
        sums(MASKED, ONE, LEAST_NORMAL, ONE, ONE, "3fff 8000000000000001");
        sums(MASKED, "7ffe 8000000000000000", LEAST_NORMAL,
                "7ffe 8000000000000000", "7ffe 8000000000000000", "7ffe 8000000000000001");
        sums(MASKED, ONE, minus(LEAST_NORMAL), ONE, "3ffe ffffffffffffffff", ONE);
        sums(MASKED, "3fff 8000000000000001", minus(LEAST_NORMAL),
                "3fff 8000000000000001", ONE, "3fff 8000000000000001");
        for (String power : new String[] {"bfbc", "bfbb", "bf80", "bf7f", "bf7e", "bf00"}) {
            sums(MASKED, ONE, power + " 8000000000000001", ONE, "3ffe ffffffffffffffff", ONE);
        }
        // Around the half that lies below 1, where the unit is half as great.
        sums(MASKED, ONE, "bfbe 8000000000000000", ONE, "3ffe ffffffffffffffff", ONE);
        sums(MASKED, ONE, "bfbe 8000000000000001", "3ffe ffffffffffffffff", "3ffe ffffffffffffffff", ONE);
        sums(MASKED, ONE, "bfbd ffffffffffffffff", ONE, "3ffe ffffffffffffffff", ONE);
    }

    private void productsQuotientsAndRoots() {
        eachRounding(TIMES, "3fff ffffffffffffffff", "3fff ffffffffffffffff",
                "4000 fffffffffffffffe", "4000 fffffffffffffffe", "4000 ffffffffffffffff");
        eachRounding(TIMES, "3fff 8000000000000001", "3fff 8000000000000001",
                "3fff 8000000000000002", "3fff 8000000000000002", "3fff 8000000000000003");
        eachRounding(BY, ONE, THREE, "3ffd aaaaaaaaaaaaaaab", "3ffd aaaaaaaaaaaaaaaa", "3ffd aaaaaaaaaaaaaaab");
        eachRounding(BY, ONE, "3fff ffffffffffffffff",
                "3ffe 8000000000000001", "3ffe 8000000000000000", "3ffe 8000000000000001");
        eachRounding(BY, ONE, "3fff 8000000000000001",
                "3ffe fffffffffffffffe", "3ffe fffffffffffffffe", "3ffe ffffffffffffffff");
        eachRounding(BY, "3fff fffffffffffffffe", "3fff ffffffffffffffff",
                "3ffe ffffffffffffffff", "3ffe fffffffffffffffe", "3ffe ffffffffffffffff");
        rootOfEachRounding("3fff ffffffffffffffff",
                "3fff b504f333f9de6484", "3fff b504f333f9de6483", "3fff b504f333f9de6484");
        rootOfEachRounding("4000 ffffffffffffffff", "3fff ffffffffffffffff", "3fff ffffffffffffffff", TWO);
        rootOfEachRounding("3fff 8000000000000001", ONE, ONE, "3fff 8000000000000001");
        // The roots of 5 and 3 go on with f9ce... and 92ba..., behind an even and an odd digit.
        rootOfEachRounding("4001 a000000000000000",
                "4000 8f1bbcdcbfa53e0b", "4000 8f1bbcdcbfa53e0a", "4000 8f1bbcdcbfa53e0b");
        rootOfEachRounding(THREE, "3fff ddb3d742c265539e", "3fff ddb3d742c265539d", "3fff ddb3d742c265539e");
        rootOfEachRounding("3fff 8000000000000003",
                "3fff 8000000000000001", "3fff 8000000000000001", "3fff 8000000000000002");
    }

    private void eachRounding(int operation, String a, String b, String nearest, String below, String above) {
        operation(MASKED, operation, a, b, LOSS, nearest);
        operation(MASKED | DOWN, operation, a, b, LOSS, below);
        operation(MASKED | UP, operation, a, b, LOSS, above);
        operation(MASKED | TOWARDS_0, operation, a, b, LOSS, below);
        operation(MASKED, operation, minus(a), b, LOSS, minus(nearest));
        operation(MASKED | DOWN, operation, a, minus(b), LOSS, minus(above));
        operation(MASKED | UP, operation, minus(a), b, LOSS, minus(below));
        operation(MASKED | TOWARDS_0, operation, a, minus(b), LOSS, minus(below));
        operation(MASKED | DOWN, operation, minus(a), minus(b), LOSS, below);
    }

    private void rootOfEachRounding(String a, String nearest, String below, String above) {
        root(MASKED, a, LOSS, nearest);
        root(MASKED | DOWN, a, LOSS, below);
        root(MASKED | UP, a, LOSS, above);
        root(MASKED | TOWARDS_0, a, LOSS, below);
    }

    private void downWithMinus() {
        sentence(TO_ROUND, "(down is, with the sign -, the greater size)");
        quotient(MASKED | DOWN, MINUS_ONE, THREE, LOSS, "bffd aaaaaaaaaaaaaaab");
        quotient(MASKED | DOWN, ONE, THREE, LOSS, "3ffd aaaaaaaaaaaaaaaa");
        quotient(MASKED | UP, MINUS_ONE, THREE, LOSS, "bffd aaaaaaaaaaaaaaaa");
        sum(MASKED | DOWN, MINUS_ONE, minus(LEAST_NORMAL), LOSS, "bfff 8000000000000001");
        sum(MASKED | DOWN, MINUS_ONE, LEAST_NORMAL, LOSS, MINUS_ONE);
        sum(MASKED_24 | DOWN, "bfff ffffff0000000001", ZERO, LOSS, minus(TWO));
        product(MASKED | DOWN, minus(LEAST_NORMAL), LEAST_NORMAL, UNDER | LOSS, MINUS_SMALL);
        product(MASKED | DOWN, MINUS_GREATEST, GREATEST, OVER | LOSS, MINUS_INFINITE);
        product((MASKED | DOWN) & ~UNDER, "8001 8000000000000001", "0001 8000000000000001",
                UNDER | LOSS, "a003 8000000000000003");
        product((MASKED | DOWN) & ~OVER, MINUS_GREATEST, GREATEST, OVER | LOSS, "dffe ffffffffffffffff");
    }
}
