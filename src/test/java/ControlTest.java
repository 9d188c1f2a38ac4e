/** Promise 2: the control's word, which of its bits count, and words that are refused. */
public final class ControlTest {
    private static final Checks CHECKS = new Checks();

    private static final String ONE = "3fff 8000000000000000";
    private static final String MINUS_ONE = "bfff 8000000000000000";
    private static final String THREE = "4000 c000000000000000";
    private static final String ZERO = "0000 0000000000000000";
    private static final String INFINITE = "7fff 8000000000000000";
    private static final String DENORMAL = "0000 0000000000000001";

    public static void main(String[] args) {
        precisionCounts();
        roundingCounts();
        viewCounts();
        masksCount();
        othersDoNotCount();
        longWordsAreRefused();
        CHECKS.end();
    }

    private static void precisionCounts() {
        third(0x003f, "3ffd aaaaab0000000000");
        third(0x013f, "3ffd aaaaaaaaaaaaaaab");
        third(0x023f, "3ffd aaaaaaaaaaaaa800");
        third(0x033f, "3ffd aaaaaaaaaaaaaaab");
    }

    private static void third(int control, String answer) {
        CHECKS.operation(control, Checks.BY, ONE, THREE, Checks.LOSS, answer);
    }

    private static void roundingCounts() {
        third(0x073f, "3ffd aaaaaaaaaaaaaaaa");
        third(0x0b3f, "3ffd aaaaaaaaaaaaaaab");
        third(0x0f3f, "3ffd aaaaaaaaaaaaaaaa");
        CHECKS.operation(0x033f, Checks.BY, MINUS_ONE, THREE, Checks.LOSS, "bffd aaaaaaaaaaaaaaab");
        CHECKS.operation(0x073f, Checks.BY, MINUS_ONE, THREE, Checks.LOSS, "bffd aaaaaaaaaaaaaaab");
        CHECKS.operation(0x0b3f, Checks.BY, MINUS_ONE, THREE, Checks.LOSS, "bffd aaaaaaaaaaaaaaaa");
        CHECKS.operation(0x0f3f, Checks.BY, MINUS_ONE, THREE, Checks.LOSS, "bffd aaaaaaaaaaaaaaaa");
    }

    private static void viewCounts() {
        CHECKS.operation(0x033f, Checks.PLUS, INFINITE, INFINITE, Checks.INVALID, "ffff c000000000000000");
        CHECKS.operation(0x133f, Checks.PLUS, INFINITE, INFINITE, 0, INFINITE);
    }

    /** Each mask alone is not set; that of LOSS changes nothing. */
    private static void masksCount() {
        CHECKS.operation(0x033e, Checks.BY, ZERO, ZERO, Checks.INVALID, Checks.UNCHANGED);
        CHECKS.operation(0x033d, Checks.PLUS, DENORMAL, ZERO, Checks.DENORMAL, Checks.UNCHANGED);
        CHECKS.operation(0x033b, Checks.BY, ONE, ZERO, Checks.DIVISION, Checks.UNCHANGED);
        CHECKS.operation(0x0337, Checks.TIMES, "7ffe 8000000000000000", THREE, Checks.OVER, "1fff c000000000000000");
        CHECKS.operation(0x032f, Checks.BY, "0001 8000000000000000", "4000 8000000000000000",
                Checks.UNDER, "6000 8000000000000000");
        third(0x031f, "3ffd aaaaaaaaaaaaaaab");
        // And each alone is set.
        CHECKS.operation(0x0301, Checks.BY, ZERO, ZERO, Checks.INVALID, "ffff c000000000000000");
        CHECKS.operation(0x0302, Checks.PLUS, DENORMAL, ONE, Checks.DENORMAL | Checks.LOSS, ONE);
        CHECKS.operation(0x0304, Checks.BY, ONE, ZERO, Checks.DIVISION, INFINITE);
        CHECKS.operation(0x0308, Checks.TIMES, "7ffe 8000000000000000", THREE, Checks.OVER | Checks.LOSS, INFINITE);
        CHECKS.operation(0x0310, Checks.BY, "0001 8000000000000000", "4000 8000000000000000",
                0, "0000 4000000000000000");
    }

    private static void othersDoNotCount() {
        third(0x033f | 0xe0c0, "3ffd aaaaaaaaaaaaaaab");
        CHECKS.operation(0x033f | 0xe0c0, Checks.PLUS, INFINITE, INFINITE, Checks.INVALID, "ffff c000000000000000");
        CHECKS.operation(0xe3c0, Checks.BY, ZERO, ZERO, Checks.INVALID, Checks.UNCHANGED);
    }

    private static void longWordsAreRefused() {
        RealOperations x = new RealOperations();
        x.control(0x0f3f);
        int[] words = {0x10000, 0x1033f, -1, Integer.MIN_VALUE, Integer.MAX_VALUE, 0x7fff0000, 0xffff033f};
        for (int word : words) {
            CHECKS.refusesArgument("control(" + word + ")", () -> x.control(word));
        }
        Checks.put(x, 1, ONE);
        Checks.put(x, 2, THREE);
        x.operate(Checks.BY, 1, 2, 3);
        CHECKS.same("1 / 3 by the control before", Checks.shown(x, 3), "3ffd aaaaaaaaaaaaaaaa");
        x.control(0xffff);
        x.operate(Checks.BY, 1, 2, 3);
        CHECKS.same("1 / 3 by control 0xffff", Checks.shown(x, 3), "3ffd aaaaaaaaaaaaaaaa");
        x.control(0);
        x.operate(Checks.BY, 1, 2, 3);
        CHECKS.same("1 / 3 by control 0", Checks.shown(x, 3), "3ffd aaaaab0000000000");
    }
}
