/** Promise 7: clear forgets all that was told, and nothing else. */
public final class ClearTest extends Sentences {
    public static void main(String[] args) {
        new ClearTest().runAlone();
    }

    @Override
    void run() {
        sentence(PROMISE_7, "Of what was told up to now nothing is kept.");
        nothingIsKept();
        laterOnesAreKept();
        nothingElseChanges();
    }

    private void nothingIsKept() {
        for (int which = 0; which < 64; which++) {
            RealOperations x = readyToTell(0x0307);
            for (int i = 0; i < 6; i++) {
                int[] call = EACH_TELLS_ONE[i];
                if ((which >> i & 1) != 0) {
                    x.operate(call[0], call[1], call[2], 7);
                }
            }
            same("told() before clear()", x.told(), which);
            x.clear();
            same("told() after clear() of " + which, x.told(), 0);
            x.clear();
            same("told() after clear() twice", x.told(), 0);
        }
        RealOperations x = new RealOperations();
        x.clear();
        same("told() of a new object after clear()", x.told(), 0);
    }

    private void laterOnesAreKept() {
        for (int i = 0; i < 6; i++) {
            int[] call = EACH_TELLS_ONE[i];
            RealOperations x = readyToTell(0x0307);
            x.operate(BY, 0, 0, 7);
            x.operate(BY, 1, 2, 7);
            x.clear();
            same("operation " + i + " after clear()", x.operate(call[0], call[1], call[2], 7), 1 << i);
            same("told() of operation " + i + " after clear()", x.told(), 1 << i);
            x.operate(PLUS, 1, 1, 7);
            same("told() stays", x.told(), 1 << i);
        }
    }

    private void nothingElseChanges() {
        RealOperations x = readyToTell(0x0307);
        x.control(0x0c3e);
        put(x, 0, NO_NUMBER);
        put(x, 6, UNCHANGED);
        x.clear();
        same("register 0 after clear()", shown(x, 0), NO_NUMBER);
        same("register 1 after clear()", shown(x, 1), ONE);
        same("register 6 after clear()", shown(x, 6), UNCHANGED);
        same("register 7 after clear()", shown(x, 7), ZERO);
        x.operate(BY, 1, 2, 7);
        same("1 / 3 by the control before clear()", shown(x, 7), "3ffd aaaaaa0000000000");
        same("no number, not masked by the control before clear()", x.operate(PLUS, 0, 1, 6), INVALID);
        same("register 6 stays", shown(x, 6), UNCHANGED);
    }
}
