import java.math.BigInteger;

/** The number n / d times 2^e, or its root: what whole numbers of units there are in it can be asked. */
final class ExactSize {
    private final BigInteger numerator;
    private final BigInteger denominator;
    private final int exponent;
    private final boolean root;

    ExactSize(BigInteger numerator, BigInteger denominator, int exponent, boolean root) {
        this.numerator = numerator;
        this.denominator = denominator;
        this.exponent = exponent;
        this.root = root;
    }

    boolean isZero() {
        return numerator.signum() == 0;
    }

    /** The greatest whole number of units 2^q that is not above the size. */
    BigInteger floor(int q) {
        BigInteger whole = divided(q)[0];
        return root ? whole.sqrt() : whole;
    }

    boolean isMultiple(int q) {
        BigInteger[] parts = divided(q);
        if (parts[1].signum() != 0) {
            return false;
        }
        return !root || parts[0].sqrtAndRemainder()[1].signum() == 0;
    }

    private BigInteger[] divided(int q) {
        int shift = exponent - (root ? 2 * q : q);
        BigInteger n = shift > 0 ? numerator.shiftLeft(shift) : numerator;
        BigInteger d = shift < 0 ? denominator.shiftLeft(-shift) : denominator;
        return n.divideAndRemainder(d);
    }

    /** The k with 2^k <= size < 2^(k + 1). */
    int magnitude() {
        int bits = numerator.bitLength() - denominator.bitLength() + exponent;
        int k = (root ? Math.floorDiv(bits, 2) : bits) + 2;
        while (floor(k).signum() == 0) {
            k--;
        }
        return k;
    }

    /** The size rounded to the unit 2^q, in units. */
    BigInteger rounded(int q, int rounding, boolean negative) {
        BigInteger below = floor(q);
        if (isMultiple(q)) {
            return below;
        }
        boolean away;
        if (rounding == 0) {
            boolean atLeastHalf = floor(q - 1).testBit(0);
            boolean justHalf = atLeastHalf && isMultiple(q - 1);
            away = justHalf ? below.testBit(0) : atLeastHalf;
        } else {
            away = rounding == (negative ? 1 : 2);
        }
        return away ? below.add(BigInteger.ONE) : below;
    }
}
