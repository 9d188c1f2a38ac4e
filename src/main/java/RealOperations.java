/**
 * Sums, differences, products, quotients and roots of reals of eighty bits, held in eight registers and
 * rounded as a control word says.
 */
public final class RealOperations {
    private static final int INVALID = 1;
    private static final int DENORMAL = 2;
    private static final int DIVISION = 4;
    private static final int OVER = 8;
    private static final int UNDER = 16;
    private static final int LOSS = 32;

    private static final int PLUS = 0;
    private static final int MINUS = 1;
    private static final int MINUS_BACKWARDS = 2;
    private static final int TIMES = 3;
    private static final int BY = 4;
    private static final int BY_BACKWARDS = 5;
    private static final int ROOT = 6;

    private static final int NEAREST = 0;
    private static final int DOWN = 1;
    private static final int UP = 2;

    private static final int TWO_INFINITES = 0x1000;
    private static final int FIRST_CONTROL = 0x03ff;
    private static final int REGISTERS = 8;
    private static final int SIXTEEN_BITS = 0xffff;
    private static final int SIGN_BIT = 0x8000;
    private static final int GREATEST_POWER = 32766;
    private static final int POWER_OF_NO_SIZE = 32767;
    private static final long HIGHEST_BIT = 1L << 63;
    private static final long LOW_HALF = 0xffffffffL;
    private static final long FRACTION_OF_INDEFINITE = 3L << 62;

    /** What a power is more than the exponent of its fraction's last digit. */
    private static final int BIAS = 16446;
    /** What an answer's power is moved by when it is out of range and that is not masked. */
    private static final int WRAP = 24576;
    /** Below the exponent of every other size, so that zero is never taken for the greater of two. */
    private static final int EXPONENT_OF_ZERO = -20000;

    private final int[] tops = new int[REGISTERS];
    private final long[] fractions = new long[REGISTERS];
    private int controlWord = FIRST_CONTROL;
    private int toldSoFar = 0;

    // The operation under way: made once, so that a call makes no objects.
    private final Real first = new Real();
    private final Real second = new Real();
    private final Real answer = new Real();
    private final Size size = new Size();
    private final Size otherSize = new Size();

    public RealOperations() {
    }

    public void control(int word) throws IllegalArgumentException {
        if (!hasSixteenBits(word)) {
            throw new IllegalArgumentException("the control has more than 16 bits");
        }
        controlWord = word;
    }

    public void set(int r, int top, int high, int low) throws IndexOutOfBoundsException, IllegalArgumentException {
        if (!isRegister(r)) {
            throw new IndexOutOfBoundsException("no such register");
        }
        if (!hasSixteenBits(top)) {
            throw new IllegalArgumentException("top has more than 16 bits");
        }
        tops[r] = top;
        fractions[r] = (long) high << 32 | low & LOW_HALF;
    }

    public int part(int r, int what) throws IndexOutOfBoundsException, IllegalArgumentException {
        if (!isRegister(r)) {
            throw new IndexOutOfBoundsException("no such register");
        }
        switch (what) {
            case 0:
                return tops[r];
            case 1:
                return (int) (fractions[r] >>> 32);
            case 2:
                return (int) fractions[r];
            default:
                throw new IllegalArgumentException("no such part");
        }
    }

    public int operate(int operation, int a, int b, int to) throws IndexOutOfBoundsException, IllegalArgumentException {
        if (!isRegister(a) || !isRegister(b) || !isRegister(to)) {
            throw new IndexOutOfBoundsException("no such register");
        }
        if (operation < PLUS || operation > ROOT) {
            throw new IllegalArgumentException("no such operation");
        }
        takeOperands(operation, a, b);
        int said = carryOut(operation);
        if (!isStopped(said)) {
            tops[to] = answer.top();
            fractions[to] = answer.fraction;
        }
        toldSoFar |= said;
        return said;
    }

    public int told() {
        return toldSoFar;
    }

    public void clear() {
        toldSoFar = 0;
    }

    private static boolean isRegister(int r) {
        return r >= 0 && r < REGISTERS;
    }

    private static boolean hasSixteenBits(int word) {
        return word >= 0 && word <= SIXTEEN_BITS;
    }

    private static boolean isSum(int operation) {
        return operation == PLUS || isDifference(operation);
    }

    private static boolean isDifference(int operation) {
        return operation == MINUS || operation == MINUS_BACKWARDS;
    }

    private static boolean isQuotient(int operation) {
        return operation == BY || operation == BY_BACKWARDS;
    }

    private boolean isMasked(int event) {
        return (controlWord & event) != 0;
    }

    /** Whether something was told that leaves the registers as they are. */
    private boolean isStopped(int said) {
        return (said & (INVALID | DENORMAL | DIVISION) & ~controlWord) != 0;
    }

    private int digits() {
        switch (controlWord >> 8 & 3) {
            case 0:
                return 24;
            case 2:
                return 53;
            default:
                return 64;
        }
    }

    private int rounding() {
        return controlWord >> 10 & 3;
    }

    private boolean hasTwoInfinites() {
        return (controlWord & TWO_INFINITES) != 0;
    }

    private void takeOperands(int operation, int a, int b) {
        boolean backwards = operation == MINUS_BACKWARDS || operation == BY_BACKWARDS;
        int one = backwards ? b : a;
        int two = backwards ? a : b;
        if (operation == ROOT) {
            // A root's one operand stands in both places: no rule then has to leave b out.
            two = a;
        }
        first.take(tops[one], fractions[one]);
        second.take(tops[two], fractions[two]);
    }

    /** Goes through the rules 1 to 6: leaves the answer and answers what is told. */
    private int carryOut(int operation) {
        if (first.isNoNumber() || second.isNoNumber()) {
            answerNoNumber();
            return INVALID;
        }
        if (isDifference(operation)) {
            second.negative = !second.negative;
        }
        if (isInvalid(operation)) {
            answer.put(true, POWER_OF_NO_SIZE, FRACTION_OF_INDEFINITE);
            return INVALID;
        }
        int said = first.isDenormal() || second.isDenormal() ? DENORMAL : 0;
        if (isStopped(said)) {
            return said;
        }
        if (isQuotient(operation) && second.isNothing() && !first.isInfinite()) {
            answer.put(hasOppositeSigns(), POWER_OF_NO_SIZE, HIGHEST_BIT);
            return said | DIVISION;
        }
        if (first.isInfinite() || second.isInfinite()) {
            answerOfInfinite(operation);
            return said;
        }
        return said | make(computeExactly(operation));
    }

    private boolean hasOppositeSigns() {
        return first.negative != second.negative;
    }

    private void answerNoNumber() {
        boolean isSecond = !first.isNoNumber();
        if (first.isNoNumber() && second.isNoNumber()) {
            int order = Long.compareUnsigned(second.fraction, first.fraction);
            isSecond = order > 0 || order == 0 && first.negative;
        }
        Real chosen = isSecond ? second : first;
        answer.put(chosen.negative, chosen.power, chosen.fraction);
    }

    private boolean isInvalid(int operation) {
        if (operation == ROOT) {
            return isInvalidRoot();
        }
        boolean bothInfinite = first.isInfinite() && second.isInfinite();
        if (isSum(operation)) {
            return bothInfinite && (!hasTwoInfinites() || hasOppositeSigns());
        }
        if (operation == TIMES) {
            return first.isInfinite() && second.isNothing() || first.isNothing() && second.isInfinite();
        }
        return bothInfinite || first.isNothing() && second.isNothing() || second.isUnnormalOfSize();
    }

    private boolean isInvalidRoot() {
        return first.negative && !first.isNothing()
                || first.isUnnormalOfSize()
                || first.isInfinite() && !hasTwoInfinites();
    }

    private void answerOfInfinite(int operation) {
        if (isQuotient(operation) && second.isInfinite()) {
            answer.put(hasOppositeSigns(), 0, 0);
            return;
        }
        boolean negative = hasOppositeSigns();
        if (isSum(operation)) {
            negative = first.isInfinite() ? first.negative : second.negative;
        }
        answer.put(negative, POWER_OF_NO_SIZE, HIGHEST_BIT);
    }

    /** Leaves the exact number's size and answers whether its sign is -. */
    private boolean computeExactly(int operation) {
        size.take(first);
        otherSize.take(second);
        if (isSum(operation)) {
            return computeSum();
        }
        if (operation == ROOT) {
            size.takeRoot();
            return first.negative;
        }
        if (operation == TIMES) {
            size.multiply(otherSize);
        } else {
            size.divide(otherSize);
        }
        return hasOppositeSigns();
    }

    private boolean computeSum() {
        boolean opposite = hasOppositeSigns();
        boolean negative = first.negative;
        if (size.isLessThan(otherSize)) {
            size.take(second);
            otherSize.take(first);
            negative = second.negative;
        }
        if (!opposite) {
            size.add(otherSize);
            return negative;
        }
        size.subtract(otherSize);
        return size.isZero() ? rounding() == DOWN : negative;
    }

    /** Makes the answer of a sign and of the size that was left; answers what is told of it. */
    private int make(boolean negative) {
        if (size.isZero()) {
            answer.put(negative, 0, 0);
            return 0;
        }
        int said = 0;
        if (size.power() < 1) {
            said = roundSmall(negative);
        } else {
            said = size.round(64 - digits(), rounding(), negative) ? LOSS : 0;
            if (size.power() > GREATEST_POWER) {
                return said | answerGreat(negative);
            }
        }
        answer.putSize(negative, size);
        return said;
    }

    private int roundSmall(boolean negative) {
        int drop = 64 - digits();
        if (isMasked(UNDER)) {
            // The last digit stays where the least normal real has it.
            drop += 1 - size.power();
            return size.round(drop, rounding(), negative) ? UNDER | LOSS : 0;
        }
        boolean loss = size.round(drop, rounding(), negative);
        size.exponent += WRAP;
        return loss ? UNDER | LOSS : UNDER;
    }

    private int answerGreat(boolean negative) {
        if (!isMasked(OVER)) {
            size.exponent -= WRAP;
            answer.putSize(negative, size);
            return OVER;
        }
        int away = negative ? DOWN : UP;
        if (rounding() == NEAREST || rounding() == away) {
            answer.put(negative, POWER_OF_NO_SIZE, HIGHEST_BIT);
        } else {
            answer.put(negative, GREATEST_POWER, -1L << (64 - digits()));
        }
        return OVER | LOSS;
    }

    /** A real as a register holds it. */
    private static final class Real {
        private boolean negative = false;
        private int power = 0;
        private long fraction = 0;

        private void take(int top, long itsFraction) {
            put((top & SIGN_BIT) != 0, top & POWER_OF_NO_SIZE, itsFraction);
        }

        private void put(boolean isNegative, int itsPower, long itsFraction) {
            negative = isNegative;
            power = itsPower;
            fraction = itsFraction;
        }

        /** Takes a size that has been rounded to what a real can hold. */
        private void putSize(boolean isNegative, Size rounded) {
            int itsPower = rounded.power();
            if (rounded.isZero()) {
                put(isNegative, 0, 0);
            } else if (itsPower < 1) {
                put(isNegative, 0, rounded.high >>> (1 - itsPower));
            } else {
                put(isNegative, itsPower, rounded.high);
            }
        }

        private int top() {
            return negative ? power | SIGN_BIT : power;
        }

        private boolean isDenormal() {
            return power == 0 && fraction != 0;
        }

        private boolean isUnnormalOfSize() {
            return power >= 1 && power <= GREATEST_POWER && fraction > 0;
        }

        private boolean isNothing() {
            return power <= GREATEST_POWER && fraction == 0;
        }

        private boolean isInfinite() {
            return power == POWER_OF_NO_SIZE && fraction << 1 == 0;
        }

        private boolean isNoNumber() {
            return power == POWER_OF_NO_SIZE && fraction << 1 != 0;
        }
    }

    /**
     * The size (high + low / 2^64) times 2^exponent, with the highest bit of high set if it is not zero.
     * Where a number has more digits than that, the last bit of low is set for all that lies below it: so
     * far down it can't be taken for a half, and tells that there is a rest.
     */
    private static final class Size {
        private long high = 0;
        private long low = 0;
        private int exponent = EXPONENT_OF_ZERO;

        private void take(Real real) {
            high = real.fraction;
            low = 0;
            exponent = Math.max(real.power, 1) - BIAS;
            normalize();
        }

        private boolean isZero() {
            return high == 0 && low == 0;
        }

        /** The power of a real of this size, were there no bounds to it. */
        private int power() {
            return exponent + BIAS;
        }

        private boolean isLessThan(Size other) {
            if (exponent != other.exponent) {
                return exponent < other.exponent;
            }
            return Long.compareUnsigned(high, other.high) < 0;
        }

        private void normalize() {
            if (isZero()) {
                exponent = EXPONENT_OF_ZERO;
                return;
            }
            for (int i = 0; i < 128 && high >= 0; i++) {
                high = high << 1 | low >>> 63;
                low <<= 1;
                exponent--;
            }
        }

        private void shiftRight(int places) {
            int steps = Math.min(places, 128);
            for (int i = 0; i < steps; i++) {
                low = high << 63 | low >>> 1 | low & 1;
                high >>>= 1;
            }
            exponent += places;
        }

        private void add(Size lesser) {
            // One place to the right leaves room for the carry.
            shiftRight(1);
            lesser.shiftRight(exponent - lesser.exponent);
            low += lesser.low;
            int carry = Long.compareUnsigned(low, lesser.low) < 0 ? 1 : 0;
            high += lesser.high + carry;
            normalize();
        }

        private void subtract(Size lesser) {
            lesser.shiftRight(exponent - lesser.exponent);
            int borrow = Long.compareUnsigned(low, lesser.low) < 0 ? 1 : 0;
            low -= lesser.low;
            high -= lesser.high + borrow;
            normalize();
        }

        private void multiply(Size other) {
            exponent += other.exponent + 64;
            takeProduct(high, other.high);
            normalize();
        }

        /** Takes all 128 bits of the product of two numbers without sign. */
        private void takeProduct(long a, long b) {
            long aHigh = a >>> 32;
            long aLow = a & LOW_HALF;
            long bHigh = b >>> 32;
            long bLow = b & LOW_HALF;
            long lows = aLow * bLow;
            long middle = aHigh * bLow + (lows >>> 32);
            long otherMiddle = aLow * bHigh + (middle & LOW_HALF);
            high = aHigh * bHigh + (middle >>> 32) + (otherMiddle >>> 32);
            low = otherMiddle << 32 | lows & LOW_HALF;
        }

        private void divide(Size divisor) {
            long rest = high;
            boolean restHasMore = false;
            high = 0;
            low = 0;
            for (int i = 0; i < 128; i++) {
                high = high << 1 | low >>> 63;
                low <<= 1;
                if (restHasMore || Long.compareUnsigned(rest, divisor.high) >= 0) {
                    rest -= divisor.high;
                    low |= 1;
                }
                // The rest doubled may have a 65th bit.
                restHasMore = rest < 0;
                rest <<= 1;
            }
            if (restHasMore || rest != 0) {
                low |= 1;
            }
            exponent -= divisor.exponent + 63;
            normalize();
        }

        private void takeRoot() {
            if (isZero()) {
                return;
            }
            // Only an even exponent can be halved.
            int odd = exponent & 1;
            long squareHigh = high >>> odd;
            long squareLow = odd == 0 ? 0 : high << 63;
            long root = 0;
            for (int i = 63; i >= 0; i--) {
                long tried = root | 1L << i;
                takeProduct(tried, tried);
                if (!isAbove(squareHigh, squareLow)) {
                    root = tried;
                }
            }
            takeProduct(root, root);
            int borrow = Long.compareUnsigned(squareLow, low) < 0 ? 1 : 0;
            long restLow = squareLow - low;
            long restHigh = squareHigh - high - borrow;
            high = root;
            low = digitsBelowRoot(root, restHigh, restLow);
            exponent = (exponent + odd - 64) / 2;
        }

        private boolean isAbove(long otherHigh, long otherLow) {
            int order = Long.compareUnsigned(high, otherHigh);
            return order > 0 || order == 0 && Long.compareUnsigned(low, otherLow) > 0;
        }

        /**
         * What stands behind a whole root: a half and more when the rest is above the root, as the square of
         * root + 1/2 is root * root + root + 1/4. It is never just a half.
         */
        private static long digitsBelowRoot(long root, long restHigh, long restLow) {
            if (restHigh == 0 && restLow == 0) {
                return 0;
            }
            boolean aboveHalf = restHigh != 0 || Long.compareUnsigned(restLow, root) > 0;
            return aboveHalf ? HIGHEST_BIT | 1 : 1;
        }

        /** Rounds so that the last drop bits of high, and low, are 0; answers whether that changed the size. */
        private boolean round(int drop, int rounding, boolean negative) {
            long kept = drop < 64 ? high >>> drop << drop : 0;
            if (kept == high && low == 0) {
                return false;
            }
            boolean odd = drop < 64 && (high >>> drop & 1) != 0;
            boolean away = isRoundedAway(compareDroppedWithHalf(drop), odd, rounding, negative);
            low = 0;
            if (!away) {
                high = kept;
            } else if (drop >= 64) {
                high = HIGHEST_BIT;
                exponent += drop - 63;
            } else {
                high = kept + (1L << drop);
                if (high == 0) {
                    high = HIGHEST_BIT;
                    exponent++;
                }
            }
            return true;
        }

        private static boolean isRoundedAway(int orderToHalf, boolean odd, int rounding, boolean negative) {
            switch (rounding) {
                case NEAREST:
                    return orderToHalf > 0 || orderToHalf == 0 && odd;
                case DOWN:
                    return negative;
                case UP:
                    return !negative;
                default:
                    return false;
            }
        }

        private int compareDroppedWithHalf(int drop) {
            if (drop > 64) {
                return -1;
            }
            if (drop <= 0) {
                return Long.compareUnsigned(low, HIGHEST_BIT);
            }
            long half = 1L << (drop - 1);
            long dropped = high & ((half << 1) - 1);
            int order = Long.compareUnsigned(dropped, half);
            return order == 0 && low != 0 ? 1 : order;
        }
    }
}
