/** The term "an operation", its rules 3 to 6: denormal operands, division by nothing, infinites, and zeros. */
public final class NumbersTest extends Sentences {
    public static void main(String[] args) {
        new NumbersTest().runAlone();
    }

    @Override
    void run() {
        denormal();
        division();
        sumsOfInfinite();
        productsAndQuotientsOfInfinite();
        numberByInfinite();
        rootOfInfinite();
        exactNumber();
        zerosOfTheSameSign();
        otherZeros();
        rootOfZero();
        signOfProductsAndQuotients();
    }

    private void denormal() {
        sentence(AN_OPERATION, "3 An operand is denormal: DENORMAL, and it goes on.");
        for (int control : new int[] {MASKED, MASKED | TWO_INFINITES, 0x0302}) {
            sum(control, SMALL, ONE, DENORMAL | LOSS, ONE);
            product(control, SMALL, ONE, (control & UNDER) != 0 ? DENORMAL : DENORMAL | UNDER,
                    (control & UNDER) != 0 ? SMALL : "5fc2 8000000000000000");
            quotient(control, ONE, "0000 4000000000000000", DENORMAL, "7ffe 8000000000000000");
            quotient(control, ZERO, SMALL, DENORMAL, ZERO);
            product(control, MINUS_ZERO, SMALL, DENORMAL, MINUS_ZERO);
            sum(control, SMALL, MINUS_SMALL, DENORMAL, ZERO);
            sum(control, SMALL, MINUS_INFINITE, DENORMAL, MINUS_INFINITE);
            product(control, INFINITE, MINUS_SMALL, DENORMAL, MINUS_INFINITE);
            quotient(control, SMALL, INFINITE, DENORMAL, ZERO);
            quotient(control, MINUS_INFINITE, SMALL, DENORMAL, MINUS_INFINITE);
            root(control, "0000 0000000000000002", DENORMAL, "1fe1 8000000000000000");
            root(control, SMALL, DENORMAL | LOSS, "1fe0 b504f333f9de6484");
        }
        quotient(MASKED, SMALL, ZERO, DENORMAL | DIVISION, INFINITE);
        // Unnormal ones and nothings with a power are not denormal.
        sum(MASKED, "0001 0000000000000001", ZERO, 0, SMALL);
        product(MASKED, "0001 0000000000000000", ONE, 0, ZERO);
    }

    private void division() {
        sentence(AN_OPERATION, "4 What is not nothing and not infinite, by nothing: DIVISION; "
                + "the answer is infinite (f 2^63).");
        for (String nothing : NOTHINGS) {
            for (String divided : new String[] {ONE, GREATEST, LEAST_NORMAL, UNNORMAL_ONE, "0001 0000000000000001"}) {
                quotient(MASKED, divided, nothing, DIVISION, INFINITE);
                quotient(MASKED | TWO_INFINITES, divided, minus(nothing), DIVISION, MINUS_INFINITE);
                quotient(0x0304, minus(divided), nothing, DIVISION, MINUS_INFINITE);
                quotient(MASKED_24 | DOWN, minus(divided), minus(nothing), DIVISION, INFINITE);
                quotient(MASKED & ~DIVISION, divided, nothing, DIVISION, UNCHANGED);
            }
            quotient(MASKED, SMALL, nothing, DENORMAL | DIVISION, INFINITE);
            // Nothing by nothing is invalid, and infinite by nothing is not division.
            quotient(MASKED, nothing, nothing, INVALID, INDEFINITE);
            for (String infinite : INFINITES) {
                String answer = isMinus(infinite) ? MINUS_INFINITE : INFINITE;
                quotient(MASKED & ~DIVISION, infinite, nothing, 0, answer);
                quotient(MASKED, infinite, minus(nothing), 0, minus(answer));
            }
            quotient(MASKED, nothing, ONE, 0, ZERO);
        }
    }

    private void sumsOfInfinite() {
        sentence(AN_OPERATION, "5 An operand is infinite: for + and - the answer is infinite (f 2^63) "
                + "with that operand's sign (after turning; with two the same)");
        String[] numbers = {
            ONE, ZERO, UNNORMAL_ONE, "7ffe 0000000000000000", MINUS_ONE, MINUS_ZERO, GREATEST, MINUS_GREATEST,
        };
        for (String number : numbers) {
            for (String infinite : INFINITES) {
                String same = isMinus(infinite) ? MINUS_INFINITE : INFINITE;
                byBothViews(PLUS, number, infinite, 0, same);
                byBothViews(PLUS, infinite, number, 0, same);
                byBothViews(MINUS, infinite, number, 0, same);
                byBothViews(MINUS, number, infinite, 0, minus(same));
                byBothViews(MINUS_BACKWARDS, number, infinite, 0, same);
                byBothViews(MINUS_BACKWARDS, infinite, number, 0, minus(same));
            }
        }
        sum(MASKED | TWO_INFINITES, INFINITE, BARE_INFINITE, 0, INFINITE);
        sum(MASKED | TWO_INFINITES, BARE_INFINITE, BARE_INFINITE, 0, INFINITE);
        sum(MASKED | TWO_INFINITES, MINUS_BARE_INFINITE, MINUS_BARE_INFINITE, 0, MINUS_INFINITE);
        sum(MASKED | TWO_INFINITES | DOWN, INFINITE, INFINITE, 0, INFINITE);
    }

    private void productsAndQuotientsOfInfinite() {
        sentence(AN_OPERATION, "times and infinite by a number: infinite");
        String[] numbers = {ONE, LEAST_NORMAL, GREATEST, UNNORMAL_ONE, "0001 0000000000000001"};
        for (String infinite : INFINITES) {
            String same = isMinus(infinite) ? MINUS_INFINITE : INFINITE;
            for (String number : numbers) {
                byBothViews(TIMES, infinite, number, 0, same);
                byBothViews(TIMES, minus(number), infinite, 0, minus(same));
            }
            for (String other : INFINITES) {
                byBothViews(TIMES, infinite, other, 0, isMinus(other) ? minus(same) : same);
            }
            for (String number : new String[] {ONE, LEAST_NORMAL, GREATEST, ZERO, "4123 0000000000000000"}) {
                byBothViews(BY, infinite, number, 0, same);
                byBothViews(BY_BACKWARDS, minus(number), infinite, 0, minus(same));
            }
        }
    }

    private void numberByInfinite() {
        sentence(AN_OPERATION, "a number by infinite: ZERO");
        String[] numbers = {ONE, ZERO, LEAST_NORMAL, GREATEST, UNNORMAL_ONE, "4123 0000000000000000"};
        for (String infinite : INFINITES) {
            String zero = isMinus(infinite) ? MINUS_ZERO : ZERO;
            for (String number : numbers) {
                byBothViews(BY, number, infinite, 0, zero);
                byBothViews(BY_BACKWARDS, infinite, minus(number), 0, minus(zero));
                operation(MASKED & ~UNDER | DOWN, BY, number, infinite, 0, zero);
            }
        }
        byBothViews(BY, SMALL, INFINITE, DENORMAL, ZERO);
    }

    private void rootOfInfinite() {
        sentence(AN_OPERATION, "the root: infinite.");
        root(MASKED | TWO_INFINITES, INFINITE, 0, INFINITE);
        root(MASKED | TWO_INFINITES, BARE_INFINITE, 0, INFINITE);
        root(0x1000, INFINITE, 0, INFINITE);
        operation(MASKED | TWO_INFINITES, ROOT, INFINITE, MINUS_ONE, 0, INFINITE);
    }

    private void exactNumber() {
        sentence(AN_OPERATION, "6 The exact number is made, with what is told of it.");
        sum(MASKED, ONE, TWO, 0, THREE);
        sum(MASKED, ONE, LEAST_NORMAL, LOSS, ONE);
        product(MASKED, GREATEST, TWO, OVER | LOSS, INFINITE);
        product(MASKED, LEAST_NORMAL, LEAST_NORMAL, UNDER | LOSS, ZERO);
        quotient(MASKED, ONE, THREE, LOSS, "3ffd aaaaaaaaaaaaaaab");
        root(MASKED, THREE, LOSS, "3fff ddb3d742c265539e");
        // The exact one, not one of an operand that was rounded before.
        product(MASKED_24, "3fff 8000008000000000", "3fff 8000008000000000", LOSS, "3fff 8000010000000000");
        sum(MASKED_24, "3fff 8000007fffffffff", "3fc0 8000000000000000", LOSS, ONE);
        sum(MASKED_24, "3fff 8000007fffffffff", "3fc0 c000000000000000", LOSS, "3fff 8000010000000000");
    }

    private void zerosOfTheSameSign() {
        sentence(AN_OPERATION, "When it is 0: for + and - of two nothings with the same sign (after turning) that sign");
        for (int rounding : ROUNDINGS) {
            for (String a : NOTHINGS) {
                for (String b : NOTHINGS) {
                    operation(MASKED | rounding, PLUS, a, b, 0, ZERO);
                    operation(MASKED | rounding, PLUS, minus(a), minus(b), 0, MINUS_ZERO);
                    operation(MASKED | rounding, MINUS, a, minus(b), 0, ZERO);
                    operation(MASKED | rounding, MINUS, minus(a), b, 0, MINUS_ZERO);
                    operation(MASKED | rounding, MINUS_BACKWARDS, a, minus(b), 0, MINUS_ZERO);
                    operation(MASKED | rounding, MINUS_BACKWARDS, minus(a), b, 0, ZERO);
                }
            }
        }
    }

    private void otherZeros() {
        sentence(AN_OPERATION, "for others (also x - x) the sign - if rounding is down, otherwise not");
        String[] sizes = {ONE, THREE, GREATEST, LEAST_NORMAL, "3fff ffffffffffffffff"};
        for (int rounding : ROUNDINGS) {
            int control = MASKED | rounding;
            String zero = rounding == DOWN ? MINUS_ZERO : ZERO;
            for (String a : NOTHINGS) {
                for (String b : NOTHINGS) {
                    sum(control, a, minus(b), 0, zero);
                }
            }
            for (String x : sizes) {
                sum(control, x, minus(x), 0, zero);
            }
            sum(control, UNNORMAL_ONE, MINUS_ONE, 0, zero);
            sum(control, SMALL, MINUS_SMALL, DENORMAL, zero);
            sum(control & ~0x0300, "3fff ffffffffffffffff", "bfff ffffffffffffffff", 0, zero);
        }
    }

    private void rootOfZero() {
        sentence(AN_OPERATION, "a root the sign of a.");
        for (int rounding : ROUNDINGS) {
            for (String nothing : NOTHINGS) {
                root(MASKED | rounding, nothing, 0, ZERO);
                root(MASKED | rounding, minus(nothing), 0, MINUS_ZERO);
                operation(MASKED | rounding, ROOT, nothing, MINUS_ONE, 0, ZERO);
            }
        }
    }

    private void signOfProductsAndQuotients() {
        sentence(AN_OPERATION, "The sign of products and quotients (4, 5, 6) is - when those of a and b differ.");
        for (int rounding : ROUNDINGS) {
            int control = MASKED | rounding;
            ofEachSign(control, TIMES, THREE, TWO, "4001 c000000000000000", 0);
            ofEachSign(control, BY, THREE, TWO, "3fff c000000000000000", 0);
            ofEachSign(control, BY_BACKWARDS, TWO, THREE, "3fff c000000000000000", 0);
            // Zeros, too, and not as rounding says.
            ofEachSign(control, TIMES, ZERO, TWO, ZERO, 0);
            ofEachSign(control, TIMES, ZERO, ZERO, ZERO, 0);
            ofEachSign(control, TIMES, "7ffe 0000000000000000", THREE, ZERO, 0);
            ofEachSign(control, BY, ZERO, TWO, ZERO, 0);
            ofEachSign(control, BY_BACKWARDS, TWO, ZERO, ZERO, 0);
            // By nothing (4) and of what is infinite (5).
            ofEachSign(control, BY, ONE, ZERO, INFINITE, DIVISION);
            ofEachSign(control, BY_BACKWARDS, ZERO, ONE, INFINITE, DIVISION);
            ofEachSign(control, TIMES, INFINITE, TWO, INFINITE, 0);
            ofEachSign(control, TIMES, INFINITE, INFINITE, INFINITE, 0);
            ofEachSign(control, BY, INFINITE, TWO, INFINITE, 0);
            ofEachSign(control, BY, INFINITE, ZERO, INFINITE, 0);
            ofEachSign(control, BY, TWO, INFINITE, ZERO, 0);
            ofEachSign(control, BY_BACKWARDS, INFINITE, TWO, ZERO, 0);
        }
        ofEachSign(MASKED, TIMES, LEAST_NORMAL, LEAST_NORMAL, ZERO, UNDER | LOSS);
        ofEachSign(MASKED | TOWARDS_0, TIMES, GREATEST, GREATEST, GREATEST, OVER | LOSS);
    }

    private void ofEachSign(int control, int operation, String a, String b, String answer, int told) {
        operation(control, operation, a, b, told, answer);
        operation(control, operation, minus(a), b, told, minus(answer));
        operation(control, operation, a, minus(b), told, minus(answer));
        operation(control, operation, minus(a), minus(b), told, answer);
    }
}
