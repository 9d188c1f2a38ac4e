import java.math.BigInteger;

/** The document's words in whole numbers without bounds, to hold the class against. */
final class Model {
    private static final BigInteger HIGHEST = BigInteger.ONE.shiftLeft(63);
    private static final int ZERO = 0;
    private static final int DENORMAL = 1;
    private static final int UNNORMAL = 2;
    private static final int NORMAL = 3;
    private static final int INFINITE = 4;
    private static final int NO_NUMBER = 5;

    /** A real, its fraction as a number without sign. */
    static final class Real {
        final boolean minus;
        final int power;
        final BigInteger fraction;

        Real(boolean minus, int power, BigInteger fraction) {
            this.minus = minus;
            this.power = power;
            this.fraction = fraction;
        }

        int kind() {
            if (power == 32767) {
                return fraction.clearBit(63).signum() == 0 ? INFINITE : NO_NUMBER;
            }
            if (power == 0) {
                return fraction.signum() == 0 ? ZERO : DENORMAL;
            }
            return fraction.testBit(63) ? NORMAL : UNNORMAL;
        }

        boolean nothing() {
            return kind() < INFINITE && fraction.signum() == 0;
        }

        int exponent() {
            return (power == 0 ? 1 : power) - 16446;
        }

        Real turned() {
            return new Real(!minus, power, fraction);
        }

        @Override
        public String toString() {
            return String.format("%04x %016x", power | (minus ? 0x8000 : 0), fraction);
        }
    }

    private final Real[] registers = new Real[8];
    private int control = 0x03ff;
    private int told = 0;
    private int said;

    Model() {
        for (int r = 0; r < 8; r++) {
            registers[r] = new Real(false, 0, BigInteger.ZERO);
        }
    }

    void control(int word) {
        if (word >>> 16 != 0) {
            throw new IllegalArgumentException();
        }
        control = word;
    }

    void set(int r, int top, int high, int low) {
        checkRegister(r);
        if (top >>> 16 != 0) {
            throw new IllegalArgumentException();
        }
        BigInteger f = BigInteger.valueOf(high & 0xffffffffL).shiftLeft(32).add(BigInteger.valueOf(low & 0xffffffffL));
        registers[r] = new Real(top >= 0x8000, top & 0x7fff, f);
    }

    int part(int r, int what) {
        checkRegister(r);
        if (what < 0 || what > 2) {
            throw new IllegalArgumentException();
        }
        Real x = registers[r];
        if (what == 0) {
            return x.power + (x.minus ? 0x8000 : 0);
        }
        return what == 1 ? x.fraction.shiftRight(32).intValue() : x.fraction.intValue();
    }

    int told() {
        return told;
    }

    void clear() {
        told = 0;
    }

    String shown(int r) {
        return registers[r].toString();
    }

    int operate(int operation, int a, int b, int to) {
        checkRegister(a);
        checkRegister(b);
        checkRegister(to);
        if (operation < 0 || operation > 6) {
            throw new IllegalArgumentException();
        }
        said = 0;
        Real answer = operation == 6 ? root(registers[a]) : ofTwo(operation, registers[a], registers[b]);
        if (answer != null) {
            registers[to] = answer;
        }
        told |= said;
        return said;
    }

    private static void checkRegister(int r) {
        if (r < 0 || r > 7) {
            throw new IndexOutOfBoundsException();
        }
    }

    /** Tells an event and gives the answer back, or null when the event is not masked. */
    private Real tell(int event, Real answer) {
        said |= event;
        return (control & event) == 0 ? null : answer;
    }

    private boolean oneInfinite() {
        return (control >> 12 & 1) == 0;
    }

    private int rounding() {
        return control >> 10 & 3;
    }

    private static Real infinite(boolean minus) {
        return new Real(minus, 32767, HIGHEST);
    }

    private static Real indefinite() {
        return new Real(true, 32767, HIGHEST.setBit(62));
    }

    private Real root(Real a) {
        int kind = a.kind();
        if (kind == NO_NUMBER) {
            return tell(1, a);
        }
        if (!a.nothing() && (a.minus || kind == UNNORMAL) || kind == INFINITE && oneInfinite()) {
            return tell(1, indefinite());
        }
        if (kind == DENORMAL && tell(2, a) == null) {
            return null;
        }
        if (kind == INFINITE) {
            return infinite(false);
        }
        return made(a.minus, new ExactSize(a.fraction, BigInteger.ONE, a.exponent(), true));
    }

    private Real ofTwo(int operation, Real a, Real b) {
        if (a.kind() == NO_NUMBER || b.kind() == NO_NUMBER) {
            return tell(1, noNumber(a, b));
        }
        switch (operation) {
            case 0:
                return sum(a, b);
            case 1:
                return sum(a, b.turned());
            case 2:
                return sum(b, a.turned());
            case 3:
                return product(a, b);
            case 4:
                return quotient(a, b);
            default:
                return quotient(b, a);
        }
    }

    private static Real noNumber(Real a, Real b) {
        if (a.kind() != NO_NUMBER) {
            return b;
        }
        if (b.kind() != NO_NUMBER) {
            return a;
        }
        int order = a.fraction.compareTo(b.fraction);
        if (order != 0) {
            return order > 0 ? a : b;
        }
        return a.minus ? b : a;
    }

    private boolean stoppedByDenormal(Real a, Real b) {
        return (a.kind() == DENORMAL || b.kind() == DENORMAL) && tell(2, a) == null;
    }

    private Real sum(Real a, Real b) {
        boolean infiniteA = a.kind() == INFINITE;
        boolean infiniteB = b.kind() == INFINITE;
        if (infiniteA && infiniteB && (oneInfinite() || a.minus != b.minus)) {
            return tell(1, indefinite());
        }
        if (stoppedByDenormal(a, b)) {
            return null;
        }
        if (infiniteA || infiniteB) {
            return infinite(infiniteA ? a.minus : b.minus);
        }
        int e = Math.min(a.exponent(), b.exponent());
        BigInteger total = whole(a, e).add(whole(b, e));
        boolean minus = total.signum() < 0;
        if (total.signum() == 0) {
            minus = a.nothing() && b.nothing() && a.minus == b.minus ? a.minus : rounding() == 1;
        }
        return made(minus, new ExactSize(total.abs(), BigInteger.ONE, e, false));
    }

    private static BigInteger whole(Real x, int e) {
        BigInteger size = x.fraction.shiftLeft(x.exponent() - e);
        return x.minus ? size.negate() : size;
    }

    private Real product(Real a, Real b) {
        boolean minus = a.minus != b.minus;
        boolean infinite = a.kind() == INFINITE || b.kind() == INFINITE;
        if (infinite && (a.nothing() || b.nothing())) {
            return tell(1, indefinite());
        }
        if (stoppedByDenormal(a, b)) {
            return null;
        }
        if (infinite) {
            return infinite(minus);
        }
        BigInteger f = a.fraction.multiply(b.fraction);
        return made(minus, new ExactSize(f, BigInteger.ONE, a.exponent() + b.exponent(), false));
    }

    private Real quotient(Real a, Real b) {
        boolean minus = a.minus != b.minus;
        boolean infiniteA = a.kind() == INFINITE;
        boolean infiniteB = b.kind() == INFINITE;
        if (infiniteA && infiniteB || a.nothing() && b.nothing() || b.kind() == UNNORMAL && !b.nothing()) {
            return tell(1, indefinite());
        }
        if (stoppedByDenormal(a, b)) {
            return null;
        }
        if (b.nothing() && !infiniteA) {
            return tell(4, infinite(minus));
        }
        if (infiniteA) {
            return infinite(minus);
        }
        if (infiniteB) {
            return new Real(minus, 0, BigInteger.ZERO);
        }
        return made(minus, new ExactSize(a.fraction, b.fraction, a.exponent() - b.exponent(), false));
    }

    private Real made(boolean minus, ExactSize x) {
        if (x.isZero()) {
            return new Real(minus, 0, BigInteger.ZERO);
        }
        int precision = control >> 8 & 3;
        int n = precision == 0 ? 24 : precision == 2 ? 53 : 64;
        int unit = x.magnitude() + 1 - n;
        BigInteger y = x.rounded(unit, rounding(), minus);
        int loss = x.isMultiple(unit) ? 0 : 32;
        if (x.magnitude() < -16382) {
            if ((control & 16) == 0) {
                said |= 16 | loss;
                return written(minus, y, unit + 24576);
            }
            int least = -16381 - n;
            said |= x.isMultiple(least) ? 0 : 16 | 32;
            return written(minus, x.rounded(least, rounding(), minus), least);
        }
        said |= loss;
        if (unit + y.bitLength() <= 16384) {
            return written(minus, y, unit);
        }
        said |= 8;
        if ((control & 8) == 0) {
            return written(minus, y, unit - 24576);
        }
        said |= 32;
        if (rounding() == 0 || rounding() == (minus ? 1 : 2)) {
            return infinite(minus);
        }
        return written(minus, BigInteger.ONE.shiftLeft(n).subtract(BigInteger.ONE), 16384 - n);
    }

    /** A real of units 2^q, which it must be able to hold. */
    private static Real written(boolean minus, BigInteger units, int q) {
        if (units.signum() == 0) {
            return new Real(minus, 0, BigInteger.ZERO);
        }
        int k = q + units.bitLength() - 1;
        boolean normal = k >= -16382;
        int exponent = normal ? k - 63 : -16445;
        BigInteger f = units.shiftLeft(Math.max(q - exponent, 0)).shiftRight(Math.max(exponent - q, 0));
        return new Real(minus, normal ? exponent + 16446 : 0, f);
    }
}
