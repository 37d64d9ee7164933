/** Lines to test with, what is done to them, and what they must answer. */
final class Lines {
    static final String MARKER = "10110010";

    /** All symbols of message 0 are 0, so its frame shows what each symbol is changed by. */
    static final String FRAME_OF_0 = MARKER + inBits("51771533517715");

    /** Too small, too large, and where whole numbers wrap around: no bit or frame has these. */
    static final int[] NEVER = {
        -1, -2, -50, -300, 300, 301, 512, 262144,
        Integer.MIN_VALUE, Integer.MIN_VALUE + 1, Integer.MAX_VALUE - 49, Integer.MAX_VALUE
    };

    private Lines() {
    }

    /** Symbols, a digit each, as bits, the highest first. */
    static String inBits(String symbols) {
        StringBuilder bits = new StringBuilder();
        for (char symbol : symbols.toCharArray()) {
            int value = symbol - '0';
            bits.append(value >> 2).append(value >> 1 & 1).append(value & 1);
        }
        return bits.toString();
    }

    static DeepSpaceLink of(String bits) {
        DeepSpaceLink x = new DeepSpaceLink();
        for (int i = 0; i < bits.length(); i++) {
            Check.due("insert(" + i + ")", x.insert(i, bits.charAt(i) == '1'), i + 1);
        }
        return x;
    }

    /**
     * Zeros with markers set into them. No other place of such a line is a sight, since the marker
     * moved along over zeros differs from the marker in two places or more.
     */
    static DeepSpaceLink marked(int length, int... markers) {
        StringBuilder bits = new StringBuilder("0".repeat(length));
        for (int place : markers) {
            bits.replace(place, place + MARKER.length(), MARKER);
        }
        return of(bits.toString());
    }

    static DeepSpaceLink sent(int... messages) {
        DeepSpaceLink x = new DeepSpaceLink();
        for (int n = 0; n < messages.length; n++) {
            Check.due("send(" + messages[n] + ")", x.send(messages[n]), 50 * (n + 1));
        }
        return x;
    }

    /** 300 bits, made with six calls. */
    static DeepSpaceLink full() {
        return sent(0, 0, 0, 0, 0, 0);
    }

    /** What full() holds. */
    static String fullText() {
        return FRAME_OF_0.repeat(6);
    }

    /** Adds a symbol other than 0 to symbol i of one of the two words of the frame at a place. */
    static void spoil(DeepSpaceLink x, int place, int word, int i, int change) {
        int at = place + 8 + 3 * (2 * i + word);
        for (int bit = 0; bit < 3; bit++) {
            if ((change >> (2 - bit) & 1) == 1) {
                x.flip(at + bit);
            }
        }
    }

    /** Makes a whole word lost: 1 1 1 0 0 0 0 is three places away from the nearest code word. */
    static void lose(DeepSpaceLink x, int place, int word) {
        for (int i = 0; i < 3; i++) {
            spoil(x, place, word, i, 1);
        }
    }

    static void holds(String when, DeepSpaceLink x, String bits) {
        Check.due(when + ": bits()", x.bits(), bits.length());
        for (int i = 0; i < bits.length(); i++) {
            Check.due(when + ": bit(" + i + ")", x.bit(i), bits.charAt(i) - '0');
        }
        Check.due(when + ": bit(" + bits.length() + ")", x.bit(bits.length()), DeepSpaceLink.BAD);
    }

    static void taken(String when, DeepSpaceLink x, int... places) {
        Check.due(when + ": frames()", x.frames(), places.length);
        for (int k = 0; k < places.length; k++) {
            Check.due(when + ": place(" + k + ")", x.place(k), places[k]);
        }
        Check.due(when + ": place past the last", x.place(places.length), DeepSpaceLink.BAD);
        Check.due(when + ": place(-1)", x.place(-1), DeepSpaceLink.BAD);
    }
}
