/** What the document says of the number of calls: up to the 512th, all answer as promised. */
public final class CallsTest extends Sentences {
    private static final int CALLS = 512;

    public static void main(String[] args) {
        new CallsTest().runAlone();
    }

    @Override
    void run() {
        sentence(WHAT_IT_IS,
                "An object is used for at most 512 calls after it has been made; what later calls answer is free.");
        lastCallAnswers();
        lastCallIsRefused();
        manyOperations();
    }

    /** An object of which all calls but the last have been made. */
    private RealOperations usedUpToTheLast() {
        RealOperations x = new RealOperations();
        x.control(MASKED_53 | UP);
        put(x, 1, ONE);
        put(x, 2, THREE);
        for (int call = 4; call < CALLS; call++) {
            callInTurn(x, call);
        }
        return x;
    }

    private void callInTurn(RealOperations x, int call) {
        switch (call % 7) {
            case 0:
                same("call " + call + ", operate(4, 1, 2, 3)", x.operate(BY, 1, 2, 3), LOSS);
                break;
            case 1:
                same("call " + call + ", part(3, 2)", x.part(3, 2), 0xaaaab000);
                break;
            case 2:
                same("call " + call + ", told()", x.told(), LOSS);
                break;
            case 3:
                x.control(MASKED_53 | UP);
                break;
            case 4:
                x.set(3, 0x3ffd, 0, call);
                break;
            case 5:
                refusesArgument("call " + call + ", operate(7, 1, 2, 3)", () -> x.operate(7, 1, 2, 3));
                break;
            default:
                x.clear();
                break;
        }
    }

    private void lastCallAnswers() {
        same("the last call, part(3, 0)", usedUpToTheLast().part(3, 0), 0x3ffd);
        same("the last call, part(3, 2)", usedUpToTheLast().part(3, 2), 0xaaaab000);
        same("the last call, part(1, 1)", usedUpToTheLast().part(1, 1), 0x80000000);
        same("the last call, told()", usedUpToTheLast().told(), LOSS);
        same("the last call, operate(4, 1, 2, 3)", usedUpToTheLast().operate(BY, 1, 2, 3), LOSS);
        same("the last call, operate(4, 1, 0, 3)", usedUpToTheLast().operate(BY, 1, 0, 3), DIVISION);
    }

    private void lastCallIsRefused() {
        RealOperations w = usedUpToTheLast();
        refusesArgument("the last call, control(0x10000)", () -> w.control(0x10000));
        RealOperations x = usedUpToTheLast();
        refusesIndex("the last call, set(8, 0, 0, 0)", () -> x.set(8, 0, 0, 0));
        RealOperations y = usedUpToTheLast();
        refusesArgument("the last call, part(0, 3)", () -> y.part(0, 3));
        RealOperations z = usedUpToTheLast();
        refusesIndex("the last call, operate(6, 0, 8, 0)", () -> z.operate(ROOT, 0, 8, 0));
    }

    /** One is put to zero 510 times: that is 510. */
    private void manyOperations() {
        RealOperations x = new RealOperations();
        put(x, 0, ONE);
        for (int call = 2; call < CALLS; call++) {
            same("call " + call + ", operate(0, 1, 0, 1)", x.operate(PLUS, 1, 0, 1), 0);
        }
        same("the last call, part(1, 1)", x.part(1, 1), 0xff000000);
    }
}
