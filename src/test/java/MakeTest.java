/** The term "to make": what is zero, too small, too great, and what is told of it, at their edges. */
public final class MakeTest extends Sentences {
    private static final int OPEN_OVER = MASKED & ~OVER;
    private static final int OPEN_UNDER = MASKED & ~UNDER;
    private static final String GREAT = "7ffe 8000000000000000";
    private static final String MINUS_GREAT = "fffe 8000000000000000";

    public static void main(String[] args) {
        new MakeTest().runAlone();
    }

    @Override
    void run() {
        zero();
        unitOfTheDigits();
        tooSmall();
        tooSmallAndNotExact();
        tooSmallNotMasked();
        tooSmallNotMaskedAndNotExact();
        tooGreat();
        tooGreatMasked();
        tooGreatAwayFromZero();
        tooGreatTowardsZero();
        tooGreatNotMasked();
        tooGreatNotMaskedAndNotExact();
        inRange();
        kindOfTheAnswer();
        sumOfWhatIsTold();
    }

    private void zero() {
        sentence(TO_MAKE, "TO MAKE a real of a sign and an exact size x: x = 0: ZERO with the sign.");
        for (int control : new int[] {MASKED_24, MASKED, OPEN_UNDER, 0x0300, MASKED | UP, MASKED | DOWN}) {
            product(control, ZERO, ONE, 0, ZERO);
            product(control, ZERO, MINUS_ONE, 0, MINUS_ZERO);
            quotient(control, ZERO, GREATEST, 0, ZERO);
            quotient(control, MINUS_ZERO, GREATEST, 0, MINUS_ZERO);
            sum(control, ZERO, ZERO, 0, ZERO);
            sum(control, MINUS_ZERO, MINUS_ZERO, 0, MINUS_ZERO);
            root(control, ZERO, 0, ZERO);
            root(control, MINUS_ZERO, 0, MINUS_ZERO);
        }
        product(OPEN_UNDER, "7ffe 0000000000000000", SMALL, DENORMAL, ZERO);
    }

    private void unitOfTheDigits() {
        sentence(TO_MAKE, "Otherwise let k be the whole number with 2^k <= x < 2^(k + 1), "
                + "and y be x rounded to the unit 2^(k + 1 - n).");
        // Just 2^k, the next above it, and the last below 2^(k + 1), of each precision.
        sum(MASKED_24, ONE, "3fe8 8000000000000000", 0, "3fff 8000010000000000");
        sum(MASKED_24, TWO, "bfe8 8000000000000000", 0, "3fff ffffff0000000000");
        sum(MASKED_24, ONE, "bfe7 8000000000000000", 0, "3ffe ffffff0000000000");
        sum(MASKED_53, ONE, "3fcb 8000000000000000", 0, "3fff 8000000000000800");
        sum(MASKED_53, TWO, "bfcb 8000000000000000", 0, "3fff fffffffffffff800");
        sum(MASKED_53, ONE, "bfca 8000000000000000", 0, "3ffe fffffffffffff800");
        sum(MASKED, ONE, "3fc0 8000000000000000", 0, "3fff 8000000000000001");
        sum(MASKED, TWO, "bfc0 8000000000000000", 0, "3fff ffffffffffffffff");
        sum(MASKED, ONE, "bfbf 8000000000000000", 0, "3ffe ffffffffffffffff");
        // The unit is that of x, though y be 2^(k + 1).
        sum(MASKED_24, "3fff ffffff8000000000", ZERO, LOSS, TWO);
        sum(MASKED_53 | UP, "3fff fffffffffffff801", ZERO, LOSS, TWO);
        sum(MASKED, "3fff ffffffffffffffff", "3fbf 8000000000000000", LOSS, TWO);
        // What is left of two that are nearly as great has all digits again.
        sum(MASKED, "3fff 8000000000000001", MINUS_ONE, 0, "3fc0 8000000000000000");
        sum(MASKED, TWO, "bfff ffffffffffffffff", 0, "3fc0 8000000000000000");
        sum(MASKED, "3fff ffffffffffffffff", minus(TWO), 0, "bfc0 8000000000000000");
        sum(MASKED_24, "3fff 8000000000000001", MINUS_ONE, 0, "3fc0 8000000000000000");
    }

    private void tooSmall() {
        sentence(TO_MAKE, "If x < 2^-16382: with UNDER masked the answer is x rounded to the unit 2^(-16381 - n)");
        product(MASKED, LEAST_NORMAL, HALF, 0, "0000 4000000000000000");
        product(MASKED, LEAST_NORMAL, "3fc0 8000000000000000", 0, SMALL);
        // Just 2^-16382, and what is rounded to it from above, is not below it.
        product(MASKED, "0002 8000000000000000", HALF, 0, LEAST_NORMAL);
        sum(MASKED_24, "0001 8000000000000001", ZERO, LOSS, LEAST_NORMAL);
        // Its unit is the same from just below 2^-16382 down to less than itself.
        for (int control : new int[] {MASKED | UP, MASKED_24 | UP, MASKED_53 | UP}) {
            String unit = control == (MASKED | UP) ? SMALL
                    : control == (MASKED_24 | UP) ? "0000 0000010000000000" : "0000 0000000000000800";
            sum(control, SMALL, ZERO, control == (MASKED | UP) ? DENORMAL : DENORMAL | UNDER | LOSS, unit);
            product(control, LEAST_NORMAL, LEAST_NORMAL, UNDER | LOSS, unit);
            product(control, SMALL, SMALL, DENORMAL | UNDER | LOSS, unit);
            quotient(control, SMALL, GREATEST, DENORMAL | UNDER | LOSS, unit);
            sum(control, unit, ZERO, DENORMAL, unit);
        }
        sum(MASKED_24 | TOWARDS_0, JUST_BELOW_NORMAL, ZERO, DENORMAL | UNDER | LOSS, "0000 7fffff0000000000");
        sum(MASKED_53 | TOWARDS_0, JUST_BELOW_NORMAL, ZERO, DENORMAL | UNDER | LOSS, "0000 7ffffffffffff800");
        sum(MASKED_24, "0000 0000008000000000", ZERO, DENORMAL | UNDER | LOSS, ZERO);
        sum(MASKED_24, "0000 0000008000000001", ZERO, DENORMAL | UNDER | LOSS, "0000 0000010000000000");
        sum(MASKED_24, "0000 0000018000000000", ZERO, DENORMAL | UNDER | LOSS, "0000 0000020000000000");
        // Rounded from x, not from y, which would be just between two.
        product(MASKED, "3ffd 8000000000000001", "0001 8000000000000001", UNDER | LOSS, "0000 2000000000000001");
        product(MASKED_24, "0001 8000017fffffffff", HALF, UNDER | LOSS, "0000 4000010000000000");
        product(MASKED_24, "0001 800002ffffffffff", HALF, UNDER | LOSS, "0000 4000010000000000");
        // A half of the least real, just below it and just above it.
        product(MASKED, LEAST_NORMAL, "3fbf 8000000000000000", UNDER | LOSS, ZERO);
        product(MASKED, LEAST_NORMAL, "3fbf 8000000000000001", UNDER | LOSS, SMALL);
        product(MASKED, LEAST_NORMAL, "3fbe ffffffffffffffff", UNDER | LOSS, ZERO);
        product(MASKED, LEAST_NORMAL, "3fc0 c000000000000000", UNDER | LOSS, "0000 0000000000000002");
        // Less than a half of it, from just below down to the least product.
        for (int power = 0x3fbe; power > 0; power -= power > 0x3f30 ? 1 : 0x0fff) {
            product(MASKED, "0001 8000000000000001", real(power, 0x8000000000000002L), UNDER | LOSS, ZERO);
            product(MASKED | UP, "0001 8000000000000001", real(power, 0x8000000000000002L), UNDER | LOSS, SMALL);
            product(MASKED, "0001 ffffffffffffffff", real(power - 1, -1), UNDER | LOSS, ZERO);
        }
        product(MASKED | UP, minus(LEAST_NORMAL), LEAST_NORMAL, UNDER | LOSS, MINUS_ZERO);
        product(MASKED | DOWN, minus(LEAST_NORMAL), LEAST_NORMAL, UNDER | LOSS, MINUS_SMALL);
        product(MASKED, minus(LEAST_NORMAL), LEAST_NORMAL, UNDER | LOSS, MINUS_ZERO);
    }

    private void tooSmallAndNotExact() {
        sentence(TO_MAKE, ": if that is not x, UNDER and LOSS are told.");
        product(MASKED, "0001 8000000000000001", HALF, UNDER | LOSS, "0000 4000000000000000");
        product(MASKED | UP, "0001 8000000000000001", HALF, UNDER | LOSS, "0000 4000000000000001");
        product(MASKED, "0001 8000000000000003", HALF, UNDER | LOSS, "0000 4000000000000002");
        product(MASKED | TOWARDS_0, "0001 ffffffffffffffff", HALF, UNDER | LOSS, JUST_BELOW_NORMAL);
        // Rounded up to 2^-16382 it was too small all the same.
        product(MASKED, "0001 ffffffffffffffff", HALF, UNDER | LOSS, LEAST_NORMAL);
        product(MASKED | DOWN, "8001 ffffffffffffffff", HALF, UNDER | LOSS, "8001 8000000000000000");
        sum(MASKED_24, JUST_BELOW_NORMAL, ZERO, DENORMAL | UNDER | LOSS, LEAST_NORMAL);
        // When it is x, nothing is told, of whatever precision.
        for (int control : MASKED_OF_EACH_PRECISION) {
            product(control, LEAST_NORMAL, HALF, 0, "0000 4000000000000000");
            product(control, "8001 ffffff0000000000", "3ffd 8000000000000000",
                    control == MASKED_24 ? UNDER | LOSS : 0, control == MASKED_24
                            ? "8000 4000000000000000" : "8000 3fffffc000000000");
        }
        sum(MASKED, SMALL, SMALL, DENORMAL, "0000 0000000000000002");
        sum(MASKED, JUST_BELOW_NORMAL, MINUS_SMALL, DENORMAL, "0000 7ffffffffffffffe");
        sum(MASKED, "0001 8000000000000001", minus(LEAST_NORMAL), 0, SMALL);
    }

    private void tooSmallNotMasked() {
        sentence(TO_MAKE, "Not masked: the answer is y times 2^24576, UNDER is told");
        product(OPEN_UNDER, LEAST_NORMAL, HALF, UNDER, "6000 8000000000000000");
        product(OPEN_UNDER, minus(LEAST_NORMAL), HALF, UNDER, "e000 8000000000000000");
        product(OPEN_UNDER, "0001 ffffffffffffffff", HALF, UNDER, "6000 ffffffffffffffff");
        product(OPEN_UNDER, LEAST_NORMAL, LEAST_NORMAL, UNDER, "2003 8000000000000000");
        product(OPEN_UNDER, SMALL, SMALL, DENORMAL | UNDER, "1f85 8000000000000000");
        sum(OPEN_UNDER, SMALL, ZERO, DENORMAL | UNDER, "5fc2 8000000000000000");
        sum(MASKED_24 & ~UNDER, SMALL, ZERO, DENORMAL | UNDER, "5fc2 8000000000000000");
        sum(OPEN_UNDER, "0001 8000000000000001", minus(LEAST_NORMAL), UNDER, "5fc2 8000000000000000");
        product(OPEN_UNDER, "0001 0000000000000001", "0001 0000000000000001", UNDER, "1f85 8000000000000000");
        // From 2^-16382 on it is not told.
        sum(OPEN_UNDER, SMALL, JUST_BELOW_NORMAL, DENORMAL, LEAST_NORMAL);
        product(OPEN_UNDER, LEAST_NORMAL, ONE, 0, LEAST_NORMAL);
        product(OPEN_UNDER, "0002 8000000000000000", HALF, 0, LEAST_NORMAL);
    }

    private void tooSmallNotMaskedAndNotExact() {
        sentence(TO_MAKE, ", and LOSS if y is not x.");
        product(OPEN_UNDER, "0001 8000000000000001", "0001 8000000000000001", UNDER | LOSS, "2003 8000000000000002");
        product(OPEN_UNDER | UP, "0001 8000000000000001", "0001 8000000000000001",
                UNDER | LOSS, "2003 8000000000000003");
        quotient(OPEN_UNDER, LEAST_NORMAL, THREE, UNDER | LOSS, "5fff aaaaaaaaaaaaaaab");
        quotient(OPEN_UNDER | TOWARDS_0, LEAST_NORMAL, THREE, UNDER | LOSS, "5fff aaaaaaaaaaaaaaaa");
        quotient(OPEN_UNDER, "0001 0000000000000001", GREATEST, UNDER | LOSS, "1fc2 8000000000000001");
        sum(MASKED_24 & ~UNDER | TOWARDS_0, JUST_BELOW_NORMAL, ZERO, DENORMAL | UNDER | LOSS, "6000 ffffff0000000000");
        // Rounded up to 2^-16382 it was too small all the same.
        sum(MASKED_24 & ~UNDER, JUST_BELOW_NORMAL, ZERO, DENORMAL | UNDER | LOSS, "6001 8000000000000000");
        // LOSS is of y, not of what has the unit of the least real.
        product(OPEN_UNDER, "0001 8000000000000001", HALF, UNDER, "6000 8000000000000001");
    }

    private void tooGreat() {
        sentence(TO_MAKE, "Otherwise, if y >= 2^16384, OVER is told");
        // Just 2^16384, and what is rounded to it.
        product(MASKED, GREAT, TWO, OVER | LOSS, INFINITE);
        product(OPEN_OVER, GREAT, TWO, OVER, "1fff 8000000000000000");
        sum(MASKED, GREAT, GREAT, OVER | LOSS, INFINITE);
        sum(MASKED, GREATEST, "7fbe 8000000000000000", OVER | LOSS, INFINITE);
        sum(MASKED | UP, GREATEST, LEAST_NORMAL, OVER | LOSS, INFINITE);
        sum(MASKED_24, GREATEST, ZERO, OVER | LOSS, INFINITE);
        sum(MASKED_24, "7ffe ffffff8000000000", ZERO, OVER | LOSS, INFINITE);
        sum(MASKED_53, "7ffe fffffffffffffc00", ZERO, OVER | LOSS, INFINITE);
        quotient(MASKED, GREATEST, HALF, OVER | LOSS, INFINITE);
        quotient(MASKED, GREATEST, SMALL, DENORMAL | OVER | LOSS, INFINITE);
        // Where y is below it, it is not told.
        for (int control : new int[] {MASKED, OPEN_OVER}) {
            sum(control, GREATEST, ZERO, 0, GREATEST);
            sum(control, GREATEST, "7fbd ffffffffffffffff", LOSS, GREATEST);
            sum(control | DOWN, GREATEST, "7fbe ffffffffffffffff", LOSS, GREATEST);
            sum(control | TOWARDS_0, MINUS_GREATEST, "ffbe ffffffffffffffff", LOSS, MINUS_GREATEST);
            sum(control & ~0x0300 | DOWN, GREATEST, ZERO, LOSS, "7ffe ffffff0000000000");
            sum(control & ~0x0300, "7ffe ffffff7fffffffff", ZERO, LOSS, "7ffe ffffff0000000000");
        }
    }

    private void tooGreatMasked() {
        sentence(TO_MAKE, ": masked LOSS is told, too");
        // Also when y is x.
        product(MASKED, GREAT, TWO, OVER | LOSS, INFINITE);
        product(MASKED | TOWARDS_0, GREAT, TWO, OVER | LOSS, GREATEST);
        sum(MASKED_24, GREAT, GREAT, OVER | LOSS, INFINITE);
        product(MASKED, GREATEST, GREATEST, OVER | LOSS, INFINITE);
    }

    private void tooGreatAwayFromZero() {
        sentence(TO_MAKE, ", and the answer is infinite (f is 2^63) when the rounding is to the nearest "
                + "or goes away from 0 (up without, down with the sign -)");
        for (int masked : MASKED_OF_EACH_PRECISION) {
            product(masked, GREAT, TWO, OVER | LOSS, INFINITE);
            product(masked, MINUS_GREAT, TWO, OVER | LOSS, MINUS_INFINITE);
            product(masked | UP, GREAT, TWO, OVER | LOSS, INFINITE);
            product(masked | DOWN, MINUS_GREAT, TWO, OVER | LOSS, MINUS_INFINITE);
            sum(masked | DOWN, MINUS_GREAT, MINUS_GREATEST, OVER | LOSS, MINUS_INFINITE);
            quotient(masked | UP, MINUS_GREATEST, minus(HALF), OVER | LOSS, INFINITE);
        }
    }

    private void tooGreatTowardsZero() {
        sentence(TO_MAKE, ", or else the greatest real of n digits.");
        for (int masked : MASKED_OF_EACH_PRECISION) {
            String greatest = masked == MASKED ? GREATEST
                    : masked == MASKED_24 ? "7ffe ffffff0000000000" : "7ffe fffffffffffff800";
            product(masked | DOWN, GREAT, TWO, OVER | LOSS, greatest);
            product(masked | UP, MINUS_GREAT, TWO, OVER | LOSS, minus(greatest));
            product(masked | TOWARDS_0, GREAT, TWO, OVER | LOSS, greatest);
            product(masked | TOWARDS_0, MINUS_GREAT, TWO, OVER | LOSS, minus(greatest));
            product(masked | DOWN, GREATEST, GREATEST, OVER | LOSS, greatest);
        }
    }

    private void tooGreatNotMasked() {
        sentence(TO_MAKE, "Not masked: the answer is y times 2^-24576");
        product(OPEN_OVER, GREAT, TWO, OVER, "1fff 8000000000000000");
        product(OPEN_OVER, MINUS_GREAT, TWO, OVER, "9fff 8000000000000000");
        sum(OPEN_OVER, GREATEST, GREATEST, OVER, "1fff ffffffffffffffff");
        quotient(OPEN_OVER, GREATEST, SMALL, DENORMAL | OVER, "603b ffffffffffffffff");
        quotient(OPEN_OVER, GREATEST, LEAST_NORMAL, OVER, "5ffc ffffffffffffffff");
        for (int rounding : ROUNDINGS) {
            product(OPEN_OVER | rounding, GREAT, TWO, OVER, "1fff 8000000000000000");
            product(OPEN_OVER | rounding, MINUS_GREAT, TWO, OVER, "9fff 8000000000000000");
        }
    }

    private void tooGreatNotMaskedAndNotExact() {
        sentence(TO_MAKE, ", and LOSS is told if y is not x.");
        product(OPEN_OVER, GREATEST, GREATEST, OVER | LOSS, "5ffe fffffffffffffffe");
        product(OPEN_OVER | UP, GREATEST, GREATEST, OVER | LOSS, "5ffe ffffffffffffffff");
        sum(OPEN_OVER, GREATEST, "7fbe 8000000000000000", OVER | LOSS, "1fff 8000000000000000");
        sum(MASKED_24 & ~OVER, GREATEST, ZERO, OVER | LOSS, "1fff 8000000000000000");
        product(OPEN_OVER, GREATEST, TWO, OVER, "1fff ffffffffffffffff");
    }

    private void inRange() {
        sentence(TO_MAKE, "Otherwise the answer is y, and LOSS is told if y is not x.");
        for (int control : new int[] {MASKED, MASKED & ~(OVER | UNDER)}) {
            quotient(control, ONE, THREE, LOSS, "3ffd aaaaaaaaaaaaaaab");
            quotient(control, THREE, TWO, 0, "3fff c000000000000000");
            sum(control, GREATEST, ZERO, 0, GREATEST);
            sum(control, LEAST_NORMAL, ZERO, 0, LEAST_NORMAL);
            product(control, GREAT, ONE, 0, GREAT);
            // From 2^-16382 on only LOSS is told, though the answer be 2^-16382.
            sum(control & ~0x0300, "0001 8000000000000001", ZERO, LOSS, LEAST_NORMAL);
            sum(control & ~0x0300, "0000 8000000000000001", ZERO, DENORMAL | LOSS, LEAST_NORMAL);
            product(control, "0001 8000000000000001", "3fff 8000000000000001", LOSS, "0001 8000000000000002");
        }
    }

    private void kindOfTheAnswer() {
        sentence(TO_MAKE, "The answer is NORMAL, or, if it is below 2^-16382, DENORMAL or ZERO.");
        // Of operands that are not normal, too.
        sum(MASKED, UNNORMAL_ONE, ZERO, 0, ONE);
        product(MASKED, "7ffe 0000000000000001", ONE, 0, "7fbf 8000000000000000");
        sum(MASKED, "7ffe 7fffffffffffffff", ZERO, 0, "7ffd fffffffffffffffe");
        sum(MASKED, "0000 8000000000000000", ZERO, DENORMAL, LEAST_NORMAL);
        sum(MASKED, "0002 4000000000000000", ZERO, 0, LEAST_NORMAL);
        sum(MASKED, "0002 3fffffffffffffff", ZERO, 0, "0000 7ffffffffffffffe");
        sum(MASKED, "0001 0000000000000001", ZERO, 0, SMALL);
        sum(MASKED, "4123 0000000000000000", ZERO, 0, ZERO);
        product(MASKED, "4123 0000000000000000", MINUS_ONE, 0, MINUS_ZERO);
        sum(MASKED, LEAST_NORMAL, MINUS_SMALL, DENORMAL, JUST_BELOW_NORMAL);
        product(MASKED, "0001 ffffffffffffffff", HALF, UNDER | LOSS, LEAST_NORMAL);
        product(MASKED, LEAST_NORMAL, LEAST_NORMAL, UNDER | LOSS, ZERO);
    }

    private void sumOfWhatIsTold() {
        sentence(TO_MAKE, "What is told is a sum: OVER 8, UNDER 16, LOSS 32.");
        product(MASKED, GREATEST, GREATEST, 8 + 32, INFINITE);
        product(OPEN_OVER, GREAT, TWO, 8, "1fff 8000000000000000");
        product(MASKED, LEAST_NORMAL, LEAST_NORMAL, 16 + 32, ZERO);
        product(OPEN_UNDER, LEAST_NORMAL, HALF, 16, "6000 8000000000000000");
        quotient(MASKED, ONE, THREE, 32, "3ffd aaaaaaaaaaaaaaab");
        quotient(MASKED, ONE, TWO, 0, HALF);
    }
}
