import java.util.Random;
import java.util.function.IntSupplier;

/** Promises 1 to 7: long runs of drawn calls, each held against the model. The seed is fixed. */
public final class ModelTest extends Sentences {
    private static final int RUNS = 1500;
    private static final int STEPS = 120;
    private static final int[] EDGE_POWERS = {
        0, 1, 2, 63, 64, 65, 66, 8191, 8192, 16318, 16319, 16381, 16382, 16383, 16384, 16446, 16447, 24575, 24576,
        32700, 32702, 32764, 32765, 32766, 32767, 32767, 32767,
    };

    private final Random random = new Random(20261115);
    private RealOperations real;
    private Model model;

    public static void main(String[] args) {
        new ModelTest().runAlone();
    }

    @Override
    void run() {
        for (int run = 0; run < RUNS; run++) {
            real = new RealOperations();
            model = new Model();
            // At most four calls a step and 24 at the end: the document promises 512.
            for (int step = 0; step < STEPS; step++) {
                drawCall();
            }
            for (int r = 0; r < 8; r++) {
                same("register " + r + " at the end of run " + run, shown(real, r), model.shown(r));
            }
        }
    }

    private void drawCall() {
        int draw = random.nextInt(100);
        if (draw < 8) {
            callControl(random.nextInt(20) == 0 ? random.nextInt() : drawControl());
        } else if (draw < 46) {
            callSet(drawRegister(), random.nextInt(50) == 0 ? random.nextInt() : drawTop(), drawFraction());
        } else if (draw < 48) {
            callPart(drawRegister(), random.nextInt(5) - 1);
        } else if (draw < 49) {
            real.clear();
            model.clear();
        } else if (draw < 51) {
            both("told()", () -> real.told(), () -> model.told());
        } else {
            int operation = random.nextInt(60) == 0 ? random.nextInt(20) - 10 : random.nextInt(7);
            callOperate(operation, drawRegister(), drawRegister(), drawRegister());
        }
    }

    private void callControl(int word) {
        both("control(" + word + ")", () -> {
            real.control(word);
            return 0;
        }, () -> {
            model.control(word);
            return 0;
        });
    }

    private void callSet(int r, int top, long fraction) {
        int high = (int) (fraction >>> 32);
        int low = (int) fraction;
        both("set(" + r + ", " + top + ", " + high + ", " + low + ")", () -> {
            real.set(r, top, high, low);
            return 0;
        }, () -> {
            model.set(r, top, high, low);
            return 0;
        });
    }

    private void callPart(int r, int what) {
        both("part(" + r + ", " + what + ")", () -> real.part(r, what), () -> model.part(r, what));
    }

    private void callOperate(int operation, int a, int b, int to) {
        String text = "operate(" + operation + ", " + a + ", " + b + ", " + to + ")";
        if (isRegister(a) && isRegister(b)) {
            text += " on " + model.shown(a) + " and " + model.shown(b);
        }
        both(text, () -> real.operate(operation, a, b, to), () -> model.operate(operation, a, b, to));
        if (isRegister(to)) {
            same(text + " left", shown(real, to), model.shown(to));
        }
    }

    private static boolean isRegister(int r) {
        return r >= 0 && r < 8;
    }

    private int drawRegister() {
        return random.nextInt(150) == 0 ? random.nextInt(20) - 10 : random.nextInt(8);
    }

    /** Mostly with the first three masked, so that there are answers. */
    private int drawControl() {
        int word = random.nextInt(0x10000);
        return random.nextInt(4) == 0 ? word : word | 7;
    }

    private int drawTop() {
        int sign = random.nextInt(2) << 15;
        switch (random.nextInt(5)) {
            case 0:
                return sign | random.nextInt(0x8000);
            case 1:
                return sign | EDGE_POWERS[random.nextInt(EDGE_POWERS.length)];
            case 2:
                return sign | random.nextInt(140);
            default:
                return sign | 16383 + random.nextInt(141) - 70;
        }
    }

    private long drawFraction() {
        long f = random.nextLong();
        switch (random.nextInt(8)) {
            case 0:
                f = 0;
                break;
            case 1:
                f = 1L << random.nextInt(64);
                break;
            case 2:
                f = -1L << random.nextInt(64);
                break;
            case 3:
                f = -1L >>> random.nextInt(64);
                break;
            case 4:
                f &= -1L << random.nextInt(64);
                break;
            case 5:
                f = (1L << random.nextInt(64)) + random.nextInt(5) - 2;
                break;
            default:
                break;
        }
        return random.nextInt(6) == 0 ? f : f | Long.MIN_VALUE;
    }

    private void both(String text, IntSupplier ofClass, IntSupplier ofModel) {
        same(text, answer(ofClass), answer(ofModel));
    }

    private static String answer(IntSupplier call) {
        try {
            return Integer.toString(call.getAsInt());
        } catch (RuntimeException e) {
            return e.getClass().getName();
        }
    }
}
