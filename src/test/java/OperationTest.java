/** The term "an operation": what each is, what is nothing, the turned sign, and the order of the rules. */
public final class OperationTest extends Sentences {
    private static final int NONE_MASKED = 0x0300;
    private static final int OPEN_INVALID = MASKED & ~INVALID;
    private static final int OPEN_DENORMAL = MASKED & ~DENORMAL;
    private static final int OPEN_DIVISION = MASKED & ~DIVISION;

    public static void main(String[] args) {
        new OperationTest().runAlone();
    }

    @Override
    void run() {
        eachOperation();
        bIsNoOperandOfRoot();
        nothing();
        turnedSign();
        firstThatFits();
        allOnTheWay();
        notMasked();
    }

    private void eachOperation() {
        sentence(AN_OPERATION, "AN OPERATION on a and b: 0 a + b");
        byBothViews(PLUS, THREE, TWO, 0, "4001 a000000000000000");
        byBothViews(PLUS, MINUS_ONE, TWO, 0, ONE);
        sentence(AN_OPERATION, "1 a - b");
        byBothViews(MINUS, THREE, TWO, 0, ONE);
        byBothViews(MINUS, MINUS_ONE, TWO, 0, minus(THREE));
        sentence(AN_OPERATION, "2 b - a");
        byBothViews(MINUS_BACKWARDS, THREE, TWO, 0, MINUS_ONE);
        byBothViews(MINUS_BACKWARDS, MINUS_ONE, TWO, 0, THREE);
        sentence(AN_OPERATION, "3 a times b");
        byBothViews(TIMES, THREE, TWO, 0, "4001 c000000000000000");
        byBothViews(TIMES, MINUS_ONE, THREE, 0, minus(THREE));
        sentence(AN_OPERATION, "4 a / b");
        byBothViews(BY, THREE, TWO, 0, "3fff c000000000000000");
        byBothViews(BY, MINUS_ONE, TWO, 0, minus(HALF));
        sentence(AN_OPERATION, "5 b / a");
        byBothViews(BY_BACKWARDS, THREE, TWO, LOSS, "3ffe aaaaaaaaaaaaaaab");
        byBothViews(BY_BACKWARDS, MINUS_ONE, TWO, 0, minus(TWO));
    }

    private void bIsNoOperandOfRoot() {
        sentence(AN_OPERATION, "6 the root of a (b is no operand then).");
        String[] all = {
            ZERO, MINUS_ZERO, ONE, MINUS_ONE, THREE, SMALL, MINUS_SMALL, UNNORMAL_ONE, "4123 0000000000000000",
            INFINITE, MINUS_BARE_INFINITE, NO_NUMBER, INDEFINITE, GREATEST,
        };
        for (String b : all) {
            for (int control : new int[] {MASKED, MASKED | TWO_INFINITES, NONE_MASKED}) {
                operation(control, ROOT, "4002 9000000000000000", b, 0, THREE);
                operation(control, ROOT, TWO, b, LOSS, "3fff b504f333f9de6484");
                operation(control, ROOT, MINUS_ZERO, b, 0, MINUS_ZERO);
            }
            operation(MASKED, ROOT, MINUS_ONE, b, INVALID, INDEFINITE);
            operation(MASKED, ROOT, "7fff 0000000000000001", b, INVALID, "7fff 0000000000000001");
        }
    }

    private void nothing() {
        sentence(AN_OPERATION, "A real is NOTHING when its size is 0 (also an unnormal one).");
        for (String plus : NOTHINGS) {
            for (String nothing : new String[] {plus, minus(plus)}) {
                String infinite = isMinus(nothing) ? MINUS_INFINITE : INFINITE;
                product(MASKED, INFINITE, nothing, INVALID, INDEFINITE);
                quotient(MASKED, nothing, ZERO, INVALID, INDEFINITE);
                quotient(MASKED, ZERO, nothing, INVALID, INDEFINITE);
                quotient(MASKED, ONE, nothing, DIVISION, infinite);
                quotient(MASKED, INFINITE, nothing, 0, infinite);
                root(MASKED, nothing, 0, isMinus(nothing) ? MINUS_ZERO : ZERO);
                sum(MASKED, nothing, THREE, 0, THREE);
            }
        }
        // What is infinite, or has the least size that there is, is not nothing.
        quotient(MASKED, ONE, BARE_INFINITE, 0, ZERO);
        product(MASKED, BARE_INFINITE, ONE, 0, INFINITE);
        product(MASKED, INFINITE, SMALL, DENORMAL, INFINITE);
        product(MASKED, INFINITE, "0001 0000000000000001", 0, INFINITE);
        quotient(MASKED, SMALL, ZERO, DENORMAL | DIVISION, INFINITE);
        quotient(MASKED, "0001 0000000000000001", ZERO, DIVISION, INFINITE);
    }

    private void turnedSign() {
        sentence(AN_OPERATION, "By - the second operand's sign is turned at first, also of what is infinite.");
        byBothViews(MINUS, ONE, MINUS_ONE, 0, TWO);
        byBothViews(MINUS_BACKWARDS, ONE, MINUS_ONE, 0, minus(TWO));
        byBothViews(MINUS, ZERO, THREE, 0, minus(THREE));
        byBothViews(MINUS_BACKWARDS, ZERO, THREE, 0, THREE);
        // The second operand of b - a is a.
        byBothViews(MINUS, ONE, INFINITE, 0, MINUS_INFINITE);
        byBothViews(MINUS, ONE, MINUS_BARE_INFINITE, 0, INFINITE);
        byBothViews(MINUS, INFINITE, ONE, 0, INFINITE);
        byBothViews(MINUS_BACKWARDS, INFINITE, ONE, 0, MINUS_INFINITE);
        byBothViews(MINUS_BACKWARDS, MINUS_BARE_INFINITE, ONE, 0, INFINITE);
        byBothViews(MINUS_BACKWARDS, ONE, INFINITE, 0, INFINITE);
        int two = MASKED | TWO_INFINITES;
        operation(two, MINUS, INFINITE, MINUS_INFINITE, 0, INFINITE);
        operation(two, MINUS, MINUS_INFINITE, INFINITE, 0, MINUS_INFINITE);
        operation(two, MINUS, INFINITE, INFINITE, INVALID, INDEFINITE);
        operation(two, MINUS_BACKWARDS, INFINITE, MINUS_INFINITE, 0, MINUS_INFINITE);
        operation(two, MINUS_BACKWARDS, MINUS_INFINITE, INFINITE, 0, INFINITE);
        operation(two, MINUS_BACKWARDS, INFINITE, INFINITE, INVALID, INDEFINITE);
        // It is turned before zeros and roundings are looked at.
        operation(MASKED, MINUS, ZERO, MINUS_ZERO, 0, ZERO);
        operation(MASKED, MINUS, MINUS_ZERO, ZERO, 0, MINUS_ZERO);
        operation(MASKED | UP, MINUS, ZERO, LEAST_NORMAL, 0, minus(LEAST_NORMAL));
        operation(MASKED | UP, MINUS, MINUS_ONE, LEAST_NORMAL, LOSS, MINUS_ONE);
    }

    private void firstThatFits() {
        sentence(AN_OPERATION, "The first of these that fits is done");
        // 1 before 2, 3, 4 and 5.
        byBothViews(BY, NO_NUMBER, UNNORMAL_ONE, INVALID, NO_NUMBER);
        byBothViews(TIMES, INFINITE, NO_NUMBER, INVALID, NO_NUMBER);
        byBothViews(ROOT, "ffff 8000000000000001", ONE, INVALID, "ffff 8000000000000001");
        byBothViews(PLUS, SMALL, NO_NUMBER, INVALID, NO_NUMBER);
        byBothViews(BY, NO_NUMBER, ZERO, INVALID, NO_NUMBER);
        byBothViews(PLUS, INFINITE, NO_NUMBER, INVALID, NO_NUMBER);
        operation(OPEN_DENORMAL, TIMES, SMALL, NO_NUMBER, INVALID, NO_NUMBER);
        // 2 before 3, 4 and 5.
        byBothViews(BY, SMALL, UNNORMAL_ONE, INVALID, INDEFINITE);
        byBothViews(BY_BACKWARDS, UNNORMAL_ONE, MINUS_SMALL, INVALID, INDEFINITE);
        byBothViews(ROOT, MINUS_SMALL, ONE, INVALID, INDEFINITE);
        operation(OPEN_DENORMAL, BY, SMALL, UNNORMAL_ONE, INVALID, INDEFINITE);
        operation(OPEN_DENORMAL, ROOT, MINUS_SMALL, ONE, INVALID, INDEFINITE);
        byBothViews(BY, ZERO, ZERO, INVALID, INDEFINITE);
        operation(OPEN_DIVISION, BY, ZERO, ZERO, INVALID, INDEFINITE);
        byBothViews(BY, INFINITE, UNNORMAL_ONE, INVALID, INDEFINITE);
        byBothViews(BY, INFINITE, INFINITE, INVALID, INDEFINITE);
        // 3 before 4 and 5, and 4 before 6.
        operation(OPEN_DENORMAL, BY, SMALL, ZERO, DENORMAL, UNCHANGED);
        operation(OPEN_DENORMAL, PLUS, SMALL, INFINITE, DENORMAL, UNCHANGED);
        operation(OPEN_DIVISION, BY, ONE, ZERO, DIVISION, UNCHANGED);
        // 5 before 6: nothing is told of what is infinite.
        operation(MASKED & ~OVER, PLUS, GREATEST, INFINITE, 0, INFINITE);
        operation(MASKED & ~UNDER, BY, LEAST_NORMAL, INFINITE, 0, ZERO);
    }

    private void allOnTheWay() {
        sentence(AN_OPERATION, "; what is told is the sum of all that is named on the way");
        byBothViews(BY, SMALL, ZERO, DENORMAL | DIVISION, INFINITE);
        byBothViews(PLUS, SMALL, INFINITE, DENORMAL, INFINITE);
        byBothViews(PLUS, SMALL, ONE, DENORMAL | LOSS, ONE);
        byBothViews(BY, GREATEST, SMALL, DENORMAL | OVER | LOSS, INFINITE);
        byBothViews(TIMES, SMALL, HALF, DENORMAL | UNDER | LOSS, ZERO);
        operation(MASKED & ~OVER, BY, GREATEST, SMALL, DENORMAL | OVER, "603b ffffffffffffffff");
        operation(MASKED & ~UNDER, TIMES, SMALL, HALF, DENORMAL | UNDER, "5fc1 8000000000000000");
        // Two denormal ones are told once.
        byBothViews(PLUS, SMALL, SMALL, DENORMAL, "0000 0000000000000002");
        byBothViews(BY, SMALL, SMALL, DENORMAL, ONE);
        // What is masked, too, is told with what is not.
        operation(OPEN_DIVISION, BY, SMALL, ZERO, DENORMAL | DIVISION, UNCHANGED);
        operation(OPEN_DIVISION, BY_BACKWARDS, MINUS_ZERO, SMALL, DENORMAL | DIVISION, UNCHANGED);
    }

    private void notMasked() {
        sentence(AN_OPERATION, "when one of INVALID, DENORMAL, DIVISION is told that is not masked, "
                + "nothing more is looked at, and no register changes.");
        operation(OPEN_INVALID, PLUS, NO_NUMBER, ONE, INVALID, UNCHANGED);
        operation(OPEN_INVALID, ROOT, NO_NUMBER, ONE, INVALID, UNCHANGED);
        operation(OPEN_INVALID, PLUS, NO_NUMBER, SMALL, INVALID, UNCHANGED);
        operation(OPEN_INVALID, MINUS, INFINITE, INFINITE, INVALID, UNCHANGED);
        operation(OPEN_INVALID, TIMES, ZERO, INFINITE, INVALID, UNCHANGED);
        operation(OPEN_INVALID, BY, SMALL, UNNORMAL_ONE, INVALID, UNCHANGED);
        operation(OPEN_INVALID, ROOT, MINUS_SMALL, ONE, INVALID, UNCHANGED);
        for (int control : new int[] {OPEN_DENORMAL, NONE_MASKED}) {
            for (int operation = PLUS; operation <= BY_BACKWARDS; operation++) {
                operation(control, operation, SMALL, THREE, DENORMAL, UNCHANGED);
                operation(control, operation, THREE, MINUS_SMALL, DENORMAL, UNCHANGED);
            }
            operation(control, ROOT, SMALL, ONE, DENORMAL, UNCHANGED);
            operation(control, BY, SMALL, ZERO, DENORMAL, UNCHANGED);
            operation(control, TIMES, SMALL, INFINITE, DENORMAL, UNCHANGED);
            operation(control, TIMES, SMALL, SMALL, DENORMAL, UNCHANGED);
            operation(control, BY, GREATEST, SMALL, DENORMAL, UNCHANGED);
        }
        operation(OPEN_DIVISION, BY, ONE, ZERO, DIVISION, UNCHANGED);
        operation(OPEN_DIVISION, BY_BACKWARDS, MINUS_ZERO, ONE, DIVISION, UNCHANGED);
        operation(NONE_MASKED, BY, ONE, ZERO, DIVISION, UNCHANGED);
        // What is not masked but not told stops nothing, nor do the others.
        operation(NONE_MASKED, BY, ONE, THREE, LOSS, "3ffd aaaaaaaaaaaaaaab");
        operation(NONE_MASKED, BY, INFINITE, ZERO, 0, INFINITE);
        operation(NONE_MASKED, TIMES, GREATEST, TWO, OVER, "1fff ffffffffffffffff");
        operation(NONE_MASKED, TIMES, LEAST_NORMAL, HALF, UNDER, "6000 8000000000000000");
        answerIntoAnOperand();
    }

    /** Where the answer would go into a or b, that stays, too. */
    private void answerIntoAnOperand() {
        RealOperations x = new RealOperations();
        x.control(NONE_MASKED);
        put(x, 1, ONE);
        put(x, 3, SMALL);
        same("1 / 0 into a", x.operate(BY, 1, 2, 1), DIVISION);
        same("1 / 0 into b", x.operate(BY, 1, 2, 2), DIVISION);
        same("0 / 0 into b", x.operate(BY, 2, 2, 2), INVALID);
        same("1 + denormal into b", x.operate(PLUS, 1, 3, 3), DENORMAL);
        same("register 1", shown(x, 1), ONE);
        same("register 2", shown(x, 2), ZERO);
        same("register 3", shown(x, 3), SMALL);
    }
}
