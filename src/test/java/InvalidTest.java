/** The term "an operation", its rules 1 and 2: what is no number, and what has no answer. */
public final class InvalidTest extends Sentences {
    private static final int OPEN = MASKED & ~INVALID;
    private static final int TWO_VIEW = MASKED | TWO_INFINITES;

    public static void main(String[] args) {
        new InvalidTest().runAlone();
    }

    @Override
    void run() {
        noNumber();
        asItCame();
        greaterFraction();
        withoutMinus();
        equalOnes();
        indefinite();
        infinitesOfOneView();
        infinitesOfTwoView();
        infiniteTimesNothing();
        infiniteByInfinite();
        nothingByNothing();
        unnormalDivisor();
        rootOfMinus();
        rootOfUnnormal();
        rootOfInfinite();
    }

    private void noNumber() {
        sentence(AN_OPERATION, "1 An operand is no number: INVALID");
        String[] others = {ONE, ZERO, MINUS_SMALL, UNNORMAL_ONE, "4123 0000000000000000", INFINITE, GREATEST};
        for (int operation = PLUS; operation <= BY_BACKWARDS; operation++) {
            for (String other : others) {
                byBothViews(operation, NO_NUMBER, other, INVALID, NO_NUMBER);
                byBothViews(operation, other, NO_NUMBER, INVALID, NO_NUMBER);
            }
            operation(OPEN, operation, NO_NUMBER, ONE, INVALID, UNCHANGED);
            operation(OPEN, operation, ONE, NO_NUMBER, INVALID, UNCHANGED);
            operation(OPEN, operation, NO_NUMBER, NO_NUMBER, INVALID, UNCHANGED);
        }
        byBothViews(ROOT, NO_NUMBER, ONE, INVALID, NO_NUMBER);
        operation(OPEN, ROOT, NO_NUMBER, ONE, INVALID, UNCHANGED);
    }

    private void asItCame() {
        sentence(AN_OPERATION, "the answer is that operand as it came (no sign turned)");
        String[] reals = {
            "7fff 0000000000000001", "ffff 0000000000000001", "7fff 4000000000000000", "ffff bfffffffffffffff",
            "7fff c000000000000000", "ffff c000000000000000", "7fff ffffffffffffffff", "ffff 7fffffffffffffff",
        };
        for (String real : reals) {
            for (int operation = PLUS; operation <= BY_BACKWARDS; operation++) {
                // The other's fraction does not count, nor does its sign.
                byBothViews(operation, real, "3fff ffffffffffffffff", INVALID, real);
                byBothViews(operation, "bfff ffffffffffffffff", real, INVALID, real);
                byBothViews(operation, real, MINUS_BARE_INFINITE, INVALID, real);
                byBothViews(operation, INFINITE, real, INVALID, real);
            }
            byBothViews(ROOT, real, ONE, INVALID, real);
        }
    }

    private void greaterFraction() {
        sentence(AN_OPERATION, "of two the one with the greater fraction (as a number without sign)");
        String[] inOrder = {
            "0000000000000001", "0000000080000000", "00000000ffffffff", "0000000100000000", "4000000000000000",
            "7fffffffffffffff", "8000000000000001", "c000000000000000", "fffffffffffffffe", "ffffffffffffffff",
        };
        for (int i = 1; i < inOrder.length; i++) {
            for (int operation = PLUS; operation <= BY_BACKWARDS; operation++) {
                greaterIsTaken(operation, "7fff " + inOrder[i], "7fff " + inOrder[i - 1]);
                greaterIsTaken(operation, "ffff " + inOrder[i], "7fff " + inOrder[i - 1]);
                greaterIsTaken(operation, "7fff " + inOrder[i], "ffff " + inOrder[i - 1]);
                greaterIsTaken(operation, "ffff " + inOrder[i], "ffff " + inOrder[i - 1]);
            }
        }
        greaterIsTaken(PLUS, "7fff 8000000000000001", "7fff 7fffffffffffffff");
        greaterIsTaken(PLUS, "ffff 8000000000000001", "7fff 0000000000000001");
    }

    private void greaterIsTaken(int operation, String greater, String lesser) {
        operation(MASKED, operation, greater, lesser, INVALID, greater);
        operation(MASKED, operation, lesser, greater, INVALID, greater);
    }

    private void withoutMinus() {
        sentence(AN_OPERATION, "of equal ones that without the sign -");
        String[] fractions = {"0000000000000001", "7fffffffffffffff", "8000000000000001", "c000000000000000"};
        for (String fraction : fractions) {
            for (int operation = PLUS; operation <= BY_BACKWARDS; operation++) {
                byBothViews(operation, "ffff " + fraction, "7fff " + fraction, INVALID, "7fff " + fraction);
                byBothViews(operation, "7fff " + fraction, "ffff " + fraction, INVALID, "7fff " + fraction);
            }
        }
    }

    private void equalOnes() {
        sentence(AN_OPERATION, "of equal ones a.");
        for (int operation = PLUS; operation <= BY_BACKWARDS; operation++) {
            byBothViews(operation, INDEFINITE, INDEFINITE, INVALID, INDEFINITE);
            byBothViews(operation, NO_NUMBER, NO_NUMBER, INVALID, NO_NUMBER);
            byBothViews(operation, minus(NO_NUMBER), minus(NO_NUMBER), INVALID, minus(NO_NUMBER));
        }
    }

    private void indefinite() {
        sentence(AN_OPERATION, "2 INVALID, and the answer is INDEFINITE (the sign -, p 32767, f 2^63 + 2^62)");
        byBothViews(BY, ZERO, ZERO, INVALID, "ffff c000000000000000");
        byBothViews(TIMES, INFINITE, ZERO, INVALID, "ffff c000000000000000");
        byBothViews(ROOT, MINUS_ONE, ONE, INVALID, "ffff c000000000000000");
        byBothViews(PLUS, INFINITE, MINUS_INFINITE, INVALID, "ffff c000000000000000");
        for (int rounding : ROUNDINGS) {
            operation(MASKED_24 | rounding, BY, ZERO, ZERO, INVALID, "ffff c000000000000000");
        }
        operation(OPEN, BY, ZERO, ZERO, INVALID, UNCHANGED);
    }

    private void infinitesOfOneView() {
        sentence(AN_OPERATION, ": + and - of two infinite ones (one infinite number: always");
        for (String a : INFINITES) {
            for (String b : INFINITES) {
                for (int operation = PLUS; operation <= MINUS_BACKWARDS; operation++) {
                    operation(MASKED, operation, a, b, INVALID, INDEFINITE);
                    operation(OPEN, operation, a, b, INVALID, UNCHANGED);
                }
            }
        }
        // Of one infinite one it is never so.
        sum(MASKED, INFINITE, GREATEST, 0, INFINITE);
        sum(MASKED, INFINITE, MINUS_GREATEST, 0, INFINITE);
    }

    private void infinitesOfTwoView() {
        sentence(AN_OPERATION, "; two: when the signs, after turning, differ)");
        for (String a : INFINITES) {
            for (String b : INFINITES) {
                String ofA = isMinus(a) ? MINUS_INFINITE : INFINITE;
                String ofB = isMinus(b) ? MINUS_INFINITE : INFINITE;
                if (ofA.equals(ofB)) {
                    operation(TWO_VIEW, PLUS, a, b, 0, ofA);
                    operation(TWO_VIEW, MINUS, a, b, INVALID, INDEFINITE);
                    operation(TWO_VIEW, MINUS_BACKWARDS, a, b, INVALID, INDEFINITE);
                } else {
                    operation(TWO_VIEW, PLUS, a, b, INVALID, INDEFINITE);
                    operation(TWO_VIEW, MINUS, a, b, 0, ofA);
                    operation(TWO_VIEW, MINUS_BACKWARDS, a, b, 0, ofB);
                    operation(TWO_VIEW & ~INVALID, PLUS, a, b, INVALID, UNCHANGED);
                }
            }
        }
    }

    private void infiniteTimesNothing() {
        sentence(AN_OPERATION, "infinite times nothing");
        for (String infinite : INFINITES) {
            for (String nothing : NOTHINGS) {
                byBothViews(TIMES, infinite, nothing, INVALID, INDEFINITE);
                byBothViews(TIMES, nothing, infinite, INVALID, INDEFINITE);
                byBothViews(TIMES, infinite, minus(nothing), INVALID, INDEFINITE);
                byBothViews(TIMES, minus(nothing), infinite, INVALID, INDEFINITE);
                operation(OPEN, TIMES, infinite, nothing, INVALID, UNCHANGED);
            }
        }
    }

    private void infiniteByInfinite() {
        sentence(AN_OPERATION, "infinite by infinite");
        for (String a : INFINITES) {
            for (String b : INFINITES) {
                byBothViews(BY, a, b, INVALID, INDEFINITE);
                byBothViews(BY_BACKWARDS, a, b, INVALID, INDEFINITE);
                operation(OPEN, BY, a, b, INVALID, UNCHANGED);
            }
        }
    }

    private void nothingByNothing() {
        sentence(AN_OPERATION, "nothing by nothing");
        for (String a : NOTHINGS) {
            for (String b : NOTHINGS) {
                byBothViews(BY, a, b, INVALID, INDEFINITE);
                byBothViews(BY, minus(a), b, INVALID, INDEFINITE);
                byBothViews(BY_BACKWARDS, a, minus(b), INVALID, INDEFINITE);
                byBothViews(BY_BACKWARDS, minus(a), minus(b), INVALID, INDEFINITE);
                operation(OPEN, BY, a, b, INVALID, UNCHANGED);
            }
        }
    }

    private void unnormalDivisor() {
        sentence(AN_OPERATION, "a divisor that is unnormal and not nothing");
        String[] divisors = {
            UNNORMAL_ONE, "0001 0000000000000001", "7ffe 7fffffffffffffff", "8001 7fffffffffffffff",
            "fffe 0000000000000001",
        };
        String[] dividends = {
            ZERO, ONE, SMALL, INFINITE, BARE_INFINITE, UNNORMAL_ONE, "4123 0000000000000000", MINUS_GREATEST,
        };
        for (String divisor : divisors) {
            for (String dividend : dividends) {
                byBothViews(BY, dividend, divisor, INVALID, INDEFINITE);
                byBothViews(BY_BACKWARDS, divisor, dividend, INVALID, INDEFINITE);
                operation(OPEN, BY, dividend, divisor, INVALID, UNCHANGED);
            }
        }
        // What is divided may be unnormal, and so may what is put to, taken from or multiplied.
        byBothViews(BY, UNNORMAL_ONE, TWO, 0, HALF);
        byBothViews(BY_BACKWARDS, TWO, UNNORMAL_ONE, 0, HALF);
        byBothViews(PLUS, UNNORMAL_ONE, UNNORMAL_ONE, 0, TWO);
        byBothViews(MINUS, UNNORMAL_ONE, TWO, 0, MINUS_ONE);
        byBothViews(TIMES, UNNORMAL_ONE, UNNORMAL_ONE, 0, ONE);
        byBothViews(BY, ONE, "4000 0000000000000000", DIVISION, INFINITE);
    }

    private void rootOfMinus() {
        sentence(AN_OPERATION, "the root of what has the sign - and is not nothing");
        String[] reals = {
            MINUS_ONE, MINUS_SMALL, minus(LEAST_NORMAL), "8000 8000000000000000", MINUS_GREATEST, minus(UNNORMAL_ONE),
            MINUS_INFINITE, MINUS_BARE_INFINITE,
        };
        for (String real : reals) {
            byBothViews(ROOT, real, ONE, INVALID, INDEFINITE);
            operation(OPEN, ROOT, real, ONE, INVALID, UNCHANGED);
        }
        for (String nothing : NOTHINGS) {
            byBothViews(ROOT, minus(nothing), ONE, 0, MINUS_ZERO);
        }
    }

    private void rootOfUnnormal() {
        sentence(AN_OPERATION, "of an unnormal one that is not nothing");
        String[] reals = {
            UNNORMAL_ONE, "0001 0000000000000001", "0001 7fffffffffffffff", "7ffe 0000000000000001",
            "7ffe 7fffffffffffffff",
        };
        for (String real : reals) {
            byBothViews(ROOT, real, ONE, INVALID, INDEFINITE);
            operation(OPEN, ROOT, real, ONE, INVALID, UNCHANGED);
        }
        for (String nothing : NOTHINGS) {
            byBothViews(ROOT, nothing, ONE, 0, ZERO);
        }
        byBothViews(ROOT, "0000 4000000000000000", ONE, DENORMAL | LOSS, "1fff b504f333f9de6484");
    }

    private void rootOfInfinite() {
        sentence(AN_OPERATION, "of an infinite one when there is but one.");
        for (String infinite : new String[] {INFINITE, BARE_INFINITE}) {
            operation(MASKED, ROOT, infinite, ONE, INVALID, INDEFINITE);
            operation(OPEN, ROOT, infinite, ONE, INVALID, UNCHANGED);
            operation(TWO_VIEW, ROOT, infinite, ONE, 0, INFINITE);
            operation(TWO_VIEW & ~INVALID, ROOT, infinite, ONE, 0, INFINITE);
        }
    }
}
