/** Promise 4: the parts of a register, and wrong calls. */
public final class PartTest extends Sentences {
    public static void main(String[] args) {
        new PartTest().runAlone();
    }

    @Override
    void run() {
        parts();
        noSuchRegister();
        noSuchPart();
    }

    private void parts() {
        sentence(PROMISE_4, "Of a register: what = 0 top, 1 high, 2 low.");
        RealOperations x = new RealOperations();
        for (int r = 0; r < 8; r++) {
            x.set(r, 0x8000 + r, 0x80000010 + r, -r);
        }
        // Reading changes nothing: a second time it is the same.
        for (int again = 0; again < 2; again++) {
            for (int r = 0; r < 8; r++) {
                same("part(" + r + ", 0)", x.part(r, 0), 0x8000 + r);
                same("part(" + r + ", 1)", x.part(r, 1), 0x80000010 + r);
                same("part(" + r + ", 2)", x.part(r, 2), -r);
            }
        }
        same("told() after part()", x.told(), 0);
        x.set(0, 0xffff, -1, -1);
        same("top of 16 ones", x.part(0, 0), 0xffff);
        same("high of 32 ones", x.part(0, 1), -1);
        same("low of 32 ones", x.part(0, 2), -1);
        x.set(0, 0x7fff, 1, 0);
        same("top", x.part(0, 0), 0x7fff);
        same("high", x.part(0, 1), 1);
        same("low", x.part(0, 2), 0);
        partsOfAnAnswer();
    }

    private void partsOfAnAnswer() {
        RealOperations x = new RealOperations();
        put(x, 1, MINUS_ONE);
        put(x, 2, THREE);
        x.operate(BY, 1, 2, 0);
        same("top of -1 / 3", x.part(0, 0), 0xbffd);
        same("high of -1 / 3", x.part(0, 1), 0xaaaaaaaa);
        same("low of -1 / 3", x.part(0, 2), 0xaaaaaaab);
        x.operate(BY, 1, 3, 7);
        same("top of -1 / 0", x.part(7, 0), 0xffff);
        same("high of -1 / 0", x.part(7, 1), 0x80000000);
        same("low of -1 / 0", x.part(7, 2), 0);
    }

    private void noSuchRegister() {
        sentence(PROMISE_4, "IndexOutOfBoundsException when there is no such register");
        RealOperations x = new RealOperations();
        for (int r : NO_REGISTERS) {
            for (int what = 0; what < 3; what++) {
                int part = what;
                refusesIndex("part(" + r + ", " + part + ")", () -> x.part(r, part));
            }
        }
        same("part(0, 0)", x.part(0, 0), 0);
        same("part(7, 2)", x.part(7, 2), 0);
    }

    private void noSuchPart() {
        sentence(PROMISE_4, "IllegalArgumentException when what is none of these.");
        int[] none = {-1, 3, 4, -2, 16, 256, 0x10000, 0x10001, Integer.MIN_VALUE, Integer.MAX_VALUE};
        RealOperations x = new RealOperations();
        for (int r = 0; r < 8; r++) {
            int register = r;
            for (int what : none) {
                refusesArgument("part(" + r + ", " + what + ")", () -> x.part(register, what));
            }
            same("part(" + r + ", 2)", x.part(r, 2), 0);
        }
    }
}
