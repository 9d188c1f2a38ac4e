/** The term "a real": its parts, the edges of its kinds, and its size. */
public final class RealTest extends Sentences {
    private static final long HIGHEST = Long.MIN_VALUE;
    private static final long[] FRACTIONS_BELOW_NORMAL = {
        1, 2, 0x7fffffffL, 0x80000000L, 0xffffffffL, 0x100000000L, 0x4000000000000000L, 0x7fffffffffffffffL,
    };
    private static final long[] NORMAL_FRACTIONS = {HIGHEST, HIGHEST | 1, -1};
    private static final int[] POWERS_WITH_SIZE = {1, 2, 0x3fff, 0x4000, 32765, 32766};

    public static void main(String[] args) {
        new RealTest().runAlone();
    }

    @Override
    void run() {
        parts();
        zero();
        denormal();
        unnormal();
        unnormalNothing();
        normal();
        infinite();
        noNumber();
        size();
        sizeOfPowerZero();
    }

    private void parts() {
        sentence(REAL, "A REAL has a SIGN, a POWER p of 15 bits, and a FRACTION f of 64 bits.");
        for (int bit = 0; bit < 16; bit++) {
            heldAsItIs(real(1 << bit, 0));
            heldAsItIs(real(0xffff ^ 1 << bit, -1));
        }
        for (int bit = 0; bit < 64; bit++) {
            heldAsItIs(real(0, 1L << bit));
            heldAsItIs(real(0xffff, ~(1L << bit)));
            String normal = real(0x3fff, HIGHEST | 1L << bit);
            sum(MASKED, normal, ZERO, 0, normal);
            sum(MASKED, minus(normal), ZERO, 0, minus(normal));
        }
        for (int bit = 0; bit < 15; bit++) {
            String normal = real(1 << bit, HIGHEST);
            product(MASKED, normal, ONE, 0, normal);
            product(MASKED, normal, MINUS_ONE, 0, minus(normal));
        }
    }

    private void heldAsItIs(String real) {
        RealOperations x = new RealOperations();
        put(x, 4, real);
        same("what was set", shown(x, 4), real);
    }

    private void zero() {
        sentence(REAL, "ITS KIND: 0 ZERO (p and f are 0)");
        for (String zero : new String[] {ZERO, MINUS_ZERO}) {
            sum(MASKED, zero, ONE, 0, ONE);
            sum(MASKED, zero, zero, 0, zero);
            product(MASKED, zero, ONE, 0, zero);
            quotient(MASKED, zero, ONE, 0, zero);
            quotient(MASKED, zero, zero, INVALID, INDEFINITE);
            root(MASKED, zero, 0, zero);
        }
        // The nearest that are none.
        sum(MASKED, SMALL, ONE, DENORMAL | LOSS, ONE);
        sum(MASKED, "0001 0000000000000001", ZERO, 0, SMALL);
    }

    private void denormal() {
        sentence(REAL, "1 DENORMAL (p is 0, f is not)");
        for (long f : FRACTIONS_BELOW_NORMAL) {
            product(MASKED, real(0, f), ONE, DENORMAL, real(0, f));
            product(MASKED, real(0x8000, f), ONE, DENORMAL, real(0x8000, f));
            quotient(MASKED, real(0, f), ONE, DENORMAL, real(0, f));
            sum(MASKED, real(0, f), ZERO, DENORMAL, real(0, f));
            product(MASKED, real(1, f), ONE, 0, real(0, f));
        }
        // Also with the highest bit of f set.
        for (long f : NORMAL_FRACTIONS) {
            product(MASKED, real(0, f), ONE, DENORMAL, real(1, f));
            sum(MASKED, real(0x8000, f), ZERO, DENORMAL, real(0x8001, f));
            quotient(MASKED, real(1, f), real(0, f), DENORMAL, ONE);
            product(MASKED, real(1, f), ONE, 0, real(1, f));
        }
        root(MASKED, real(0, HIGHEST), DENORMAL, "2000 8000000000000000");
    }

    private void unnormal() {
        sentence(REAL, "2 UNNORMAL (p is 1 .. 32766, the highest bit of f is 0");
        for (int p : POWERS_WITH_SIZE) {
            for (long f : FRACTIONS_BELOW_NORMAL) {
                quotient(MASKED, ONE, real(p, f), INVALID, INDEFINITE);
                quotient(MASKED, ONE, real(0x8000 | p, f), INVALID, INDEFINITE);
                root(MASKED, real(p, f), INVALID, INDEFINITE);
            }
        }
        // With p = 0 it is denormal, with p = 32767 no number, with the highest bit of f normal.
        quotient(MASKED, LEAST_NORMAL, "0000 4000000000000000", DENORMAL, TWO);
        quotient(MASKED, JUST_BELOW_NORMAL, JUST_BELOW_NORMAL, DENORMAL, ONE);
        root(MASKED, "0000 0000000000000002", DENORMAL, "1fe1 8000000000000000");
        quotient(MASKED, ONE, "7fff 7fffffffffffffff", INVALID, "7fff 7fffffffffffffff");
        quotient(MASKED, LEAST_NORMAL, LEAST_NORMAL, 0, ONE);
    }

    private void unnormalNothing() {
        sentence(REAL, "f may be 0)");
        for (int p : POWERS_WITH_SIZE) {
            sum(MASKED, real(p, 0), ONE, 0, ONE);
            sum(MASKED, real(p, 0), ZERO, 0, ZERO);
            product(MASKED, real(p, 0), MINUS_ONE, 0, MINUS_ZERO);
            quotient(MASKED, real(p, 0), ONE, 0, ZERO);
            quotient(MASKED, ONE, real(p, 0), DIVISION, INFINITE);
            root(MASKED, real(p, 0), 0, ZERO);
            root(MASKED, real(0x8000 | p, 0), 0, MINUS_ZERO);
        }
    }

    private void normal() {
        sentence(REAL, "3 NORMAL (p is 1 .. 32766, the highest bit of f is 1)");
        for (int p : POWERS_WITH_SIZE) {
            for (long f : NORMAL_FRACTIONS) {
                String normal = real(p, f);
                sum(MASKED, normal, ZERO, 0, normal);
                product(MASKED, normal, ONE, 0, normal);
                quotient(MASKED, normal, normal, 0, ONE);
                quotient(MASKED, normal, MINUS_ONE, 0, minus(normal));
            }
        }
        root(MASKED, LEAST_NORMAL, 0, "2000 8000000000000000");
        root(MASKED, "7ffd 8000000000000000", 0, "5ffe 8000000000000000");
        root(MASKED, "7ffe 8000000000000000", LOSS, "5ffe b504f333f9de6484");
    }

    private void infinite() {
        sentence(REAL, "4 INFINITE (p is 32767, the lower 63 bits of f are 0, the highest is no matter)");
        for (String infinite : INFINITES) {
            String answer = isMinus(infinite) ? MINUS_INFINITE : INFINITE;
            sum(MASKED, infinite, ONE, 0, answer);
            product(MASKED, infinite, ONE, 0, answer);
            quotient(MASKED, infinite, ONE, 0, answer);
            quotient(MASKED, ONE, infinite, 0, isMinus(infinite) ? MINUS_ZERO : ZERO);
            quotient(MASKED, infinite, ZERO, 0, answer);
            product(MASKED, infinite, ZERO, INVALID, INDEFINITE);
            sum(MASKED | TWO_INFINITES, infinite, answer, 0, answer);
        }
        root(MASKED | TWO_INFINITES, INFINITE, 0, INFINITE);
        root(MASKED | TWO_INFINITES, BARE_INFINITE, 0, INFINITE);
        // With p = 32766 it is a number.
        sum(MASKED, "7ffe 8000000000000000", "fffe 8000000000000000", 0, ZERO);
        sum(MASKED, "7ffe 0000000000000000", ONE, 0, ONE);
    }

    private void noNumber() {
        sentence(REAL, "5 NO NUMBER (p is 32767, others).");
        for (int bit = 0; bit < 63; bit++) {
            for (int top : new int[] {0x7fff, 0xffff}) {
                String quiet = real(top, HIGHEST | 1L << bit);
                String bare = real(top, 1L << bit);
                operation(MASKED, PLUS, quiet, ONE, INVALID, quiet);
                operation(MASKED, TIMES, ONE, bare, INVALID, bare);
                operation(MASKED, BY, bare, INFINITE, INVALID, bare);
                root(MASKED | TWO_INFINITES, quiet, INVALID, quiet);
                root(MASKED | TWO_INFINITES, bare, INVALID, bare);
            }
        }
        // With p = 32766 it is a number.
        product(MASKED, "7ffe 8000000000000001", ONE, 0, "7ffe 8000000000000001");
        product(MASKED, "7ffe 4000000000000001", ONE, 0, "7ffd 8000000000000002");
    }

    private void size() {
        sentence(REAL, "THE SIZE of one of the first four kinds is f times 2^(p - 16446)");
        product(MASKED, ONE, ONE, 0, ONE);
        product(MASKED, "3fff c000000000000000", "4000 a000000000000000", 0, "4000 f000000000000000");
        root(MASKED, "4002 9000000000000000", 0, THREE);
        quotient(MASKED, ONE, "403e 8000000000000000", 0, "3fc0 8000000000000000");
        product(MASKED, SMALL, "403e 8000000000000000", DENORMAL, LEAST_NORMAL);
        product(MASKED, SMALL, "7ffe 8000000000000000", DENORMAL, "3fc1 8000000000000000");
        // Unnormal ones have the size of what is normal and as great.
        sum(MASKED, UNNORMAL_ONE, MINUS_ONE, 0, ZERO);
        sum(MASKED, UNNORMAL_ONE, TWO, 0, THREE);
        sum(MASKED, "403e 0000000000000001", MINUS_ONE, 0, ZERO);
        product(MASKED, "403e 0000000000000003", ONE, 0, THREE);
        sum(MASKED, "7ffe 4000000000000000", "fffd 8000000000000000", 0, ZERO);
        sum(MASKED, "0002 4000000000000000", minus(LEAST_NORMAL), 0, ZERO);
        quotient(MASKED, UNNORMAL_ONE, TWO, 0, HALF);
    }

    private void sizeOfPowerZero() {
        sentence(REAL, "for p = 0 as for p = 1.");
        for (long f : FRACTIONS_BELOW_NORMAL) {
            sum(MASKED, real(0, f), real(0x8001, f), DENORMAL, ZERO);
        }
        for (long f : NORMAL_FRACTIONS) {
            sum(MASKED, real(0, f), real(0x8001, f), DENORMAL, ZERO);
            quotient(MASKED, real(0, f), real(1, f), DENORMAL, ONE);
        }
        sum(MASKED, "0000 4000000000000000", "0000 4000000000000000", DENORMAL, LEAST_NORMAL);
        sum(MASKED, "0000 8000000000000000", "0000 8000000000000000", DENORMAL, "0002 8000000000000000");
        sum(MASKED, JUST_BELOW_NORMAL, SMALL, DENORMAL, LEAST_NORMAL);
        sum(MASKED, LEAST_NORMAL, MINUS_SMALL, DENORMAL, JUST_BELOW_NORMAL);
        quotient(MASKED, SMALL, LEAST_NORMAL, DENORMAL, "3fc0 8000000000000000");
        product(MASKED, "0000 8000000000000000", ONE, DENORMAL, LEAST_NORMAL);
    }
}
