/** Promise 2: the control is the word that was given last, and long words are refused. */
public final class ControlTest extends Sentences {
    public static void main(String[] args) {
        new ControlTest().runAlone();
    }

    @Override
    void run() {
        lastWordCounts();
        nothingElseChanges();
        longWords();
    }

    private static RealOperations prepared() {
        RealOperations x = new RealOperations();
        put(x, 1, ONE);
        put(x, 2, THREE);
        put(x, 4, INFINITE);
        return x;
    }

    private void lastWordCounts() {
        sentence(PROMISE_2, "The control's word.");
        RealOperations x = prepared();
        int[] words = {0xffff, 0x0000, 0x0b3f, 0x033f, 0x0c00, 0xffff, 0x123f, 0x0000};
        String[] thirds = {
            "aaaaaaaaaaaaaaaa", "aaaaab0000000000", "aaaaaaaaaaaaaaab", "aaaaaaaaaaaaaaab", "aaaaaa0000000000",
            "aaaaaaaaaaaaaaaa", "aaaaaaaaaaaaa800", "aaaaab0000000000",
        };
        for (int i = 0; i < words.length; i++) {
            x.control(words[i]);
            String by = " by control " + Integer.toHexString(words[i]) + ", given as number " + i;
            // It stays until the next one.
            for (int again = 0; again < 2; again++) {
                put(x, 3, UNCHANGED);
                same("1 / 3" + by, x.operate(BY, 1, 2, 3), LOSS);
                same("1 / 3" + by, shown(x, 3), "3ffd " + thirds[i]);
            }
            put(x, 3, UNCHANGED);
            same("0 / 0" + by, x.operate(BY, 0, 0, 3), INVALID);
            same("0 / 0" + by, shown(x, 3), (words[i] & 1) == 0 ? UNCHANGED : INDEFINITE);
            same("infinite + infinite" + by, x.operate(PLUS, 4, 4, 3), (words[i] & 0x1000) == 0 ? INVALID : 0);
        }
    }

    private void nothingElseChanges() {
        RealOperations x = prepared();
        put(x, 3, NO_NUMBER);
        put(x, 7, UNNORMAL_ONE);
        x.operate(BY, 1, 2, 5);
        for (int word : new int[] {0, 0xffff, 0x8000, 0x003f, 0x1fff}) {
            x.control(word);
            same("told() after control()", x.told(), LOSS);
            same("register 0 after control()", shown(x, 0), ZERO);
            same("register 3 after control()", shown(x, 3), NO_NUMBER);
            same("register 5 after control()", shown(x, 5), "3ffd aaaaaaaaaaaaaaab");
            same("register 7 after control()", shown(x, 7), UNNORMAL_ONE);
        }
    }

    private void longWords() {
        sentence(PROMISE_2, "IllegalArgumentException when it has more than 16 bits.");
        RealOperations x = prepared();
        x.control(0x0f3f);
        for (int word : LONG_WORDS) {
            refusesArgument("control(" + word + ")", () -> x.control(word));
        }
        for (int bit = 16; bit < 32; bit++) {
            int word = 1 << bit | 0x003f;
            refusesArgument("control(" + word + ")", () -> x.control(word));
        }
        x.operate(BY, 1, 2, 3);
        same("1 / 3 by the control before", shown(x, 3), "3ffd aaaaaaaaaaaaaaaa");
        // The longest word, and one for each bit, are taken.
        for (int bit = 0; bit < 16; bit++) {
            x.control(1 << bit);
        }
        x.control(0xffff);
        x.operate(BY, 1, 2, 3);
        same("1 / 3 by control 0xffff", shown(x, 3), "3ffd aaaaaaaaaaaaaaaa");
        x.control(0);
        x.operate(BY, 1, 2, 3);
        same("1 / 3 by control 0", shown(x, 3), "3ffd aaaaab0000000000");
    }
}
