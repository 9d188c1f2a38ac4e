/** Promises 3 and 4: registers are set and read as they are, whatever their kind, and wrong calls are refused. */
public final class SetAndPartTest {
    private static final Checks CHECKS = new Checks();

    private static final int[] NO_REGISTERS = {-1, 8, 9, Integer.MIN_VALUE, Integer.MAX_VALUE};
    private static final int[] LONG_TOPS = {0x10000, -1, Integer.MIN_VALUE, Integer.MAX_VALUE, 0xffff3fff};
    private static final int[] NO_PARTS = {-1, 3, 4, Integer.MIN_VALUE, Integer.MAX_VALUE};

    public static void main(String[] args) {
        registersAreApart();
        bitsStayAsTheyAre();
        setRefuses();
        partRefuses();
        CHECKS.end();
    }

    private static void registersAreApart() {
        RealOperations x = new RealOperations();
        for (int r = 0; r < 8; r++) {
            x.set(r, 0x8000 + r, 0x80000000 + r, -r);
        }
        for (int r = 0; r < 8; r++) {
            CHECKS.same("part(" + r + ", 0)", x.part(r, 0), 0x8000 + r);
            CHECKS.same("part(" + r + ", 1)", x.part(r, 1), 0x80000000 + r);
            CHECKS.same("part(" + r + ", 2)", x.part(r, 2), -r);
        }
    }

    private static void bitsStayAsTheyAre() {
        String[] reals = {
            "0000 0000000000000000", "8000 0000000000000000", "ffff ffffffffffffffff", "7fff 0000000000000000",
            "7fff 0000000000000001", "0001 0000000000000000", "fffe 7fffffffffffffff", "0000 8000000000000000",
            "7fff 4000000000000000", "3fff 00000000ffffffff", "3fff ffffffff00000000", "8000 0000000080000000",
        };
        RealOperations x = new RealOperations();
        for (String real : reals) {
            Checks.put(x, 5, real);
            CHECKS.same("what was set", Checks.shown(x, 5), real);
            CHECKS.same("told() after set", x.told(), 0);
        }
    }

    private static void setRefuses() {
        RealOperations x = new RealOperations();
        for (int r = 0; r < 8; r++) {
            Checks.put(x, r, Checks.UNCHANGED);
        }
        for (int r : NO_REGISTERS) {
            CHECKS.refusesIndex("set(" + r + ", ..)", () -> x.set(r, 1, 2, 3));
            CHECKS.refusesIndex("set(" + r + ", 0x10000, ..)", () -> x.set(r, 0x10000, 2, 3));
        }
        for (int top : LONG_TOPS) {
            CHECKS.refusesArgument("set(0, " + top + ", ..)", () -> x.set(0, top, 2, 3));
            CHECKS.refusesArgument("set(7, " + top + ", ..)", () -> x.set(7, top, 2, 3));
        }
        for (int r = 0; r < 8; r++) {
            CHECKS.same("register " + r + " after refused calls", Checks.shown(x, r), Checks.UNCHANGED);
        }
    }

    private static void partRefuses() {
        RealOperations x = new RealOperations();
        for (int r : NO_REGISTERS) {
            CHECKS.refusesIndex("part(" + r + ", 0)", () -> x.part(r, 0));
            CHECKS.refusesIndex("part(" + r + ", 3)", () -> x.part(r, 3));
        }
        for (int what : NO_PARTS) {
            CHECKS.refusesArgument("part(0, " + what + ")", () -> x.part(0, what));
            CHECKS.refusesArgument("part(7, " + what + ")", () -> x.part(7, what));
        }
    }
}
