/** Frames on a noisy line: found by a marker, mended by a code. */
public final class DeepSpaceLink {
    public static final int BAD = -1;
    public static final int FULL = -2;
    public static final int LOST = -3;

    private static final int CAPACITY = 300;
    private static final int MARKER = 0b10110010;
    private static final int MARKER_BITS = 8;
    private static final int MARKER_SLACK = 1;
    private static final int SYMBOL_BITS = 3;
    private static final int SYMBOL_MASK = 7;
    private static final int FRAME_SYMBOLS = 14;
    private static final int FRAME_BITS = MARKER_BITS + FRAME_SYMBOLS * SYMBOL_BITS;
    private static final int MOST_FRAMES = CAPACITY / FRAME_BITS;

    private static final int MESSAGE_SYMBOLS = 6;
    private static final int GREATEST_MESSAGE = 262143;

    private static final int WORD_SYMBOLS = 7;
    private static final int CHECK_SYMBOLS = 4;
    private static final int CHECK_BITS = CHECK_SYMBOLS * SYMBOL_BITS;
    private static final int CODE_WORDS = 512;
    private static final int MOST_MENDED = 2;
    private static final int FIELD_POLYNOMIAL = 11;

    // A code word is a polynomial that is 0 at 2, 4, 3 and 6, the first four powers of 2: a
    // multiple of (x + 2)(x + 4)(x + 3)(x + 6) = x^4 + 3 x^3 + x^2 + 2 x + 3, in octal digits here.
    private static final int GENERATOR = 013123;

    private final int[] line = new int[CAPACITY];
    private int length = 0;

    // Seven symbols are held in one int, symbol i in the bits from 3 i on. The code word at an
    // index is the one whose symbols 4, 5 and 6 are that index.
    private final int[] codeWords = new int[CODE_WORDS];

    // What the last receiving found; the line may have changed since.
    private final int[] places = new int[MOST_FRAMES];
    private int taken = 0;

    public DeepSpaceLink() {
        for (int payload = 0; payload < CODE_WORDS; payload++) {
            codeWords[payload] = codeWordOf(payload);
        }
    }

    public int send(int message) {
        if (message < 0 || message > GREATEST_MESSAGE) {
            return BAD;
        }
        if (length + FRAME_BITS > CAPACITY) {
            return FULL;
        }
        int evenPayload = payloadOf(message, 0);
        int oddPayload = payloadOf(message, 1);
        int even = codeWords[evenPayload];
        int odd = codeWords[oddPayload];
        append(MARKER, MARKER_BITS);
        for (int j = 0; j < FRAME_SYMBOLS; j++) {
            int word = j % 2 == 0 ? even : odd;
            int symbol = symbolOf(word, j / 2) ^ whitener(j);
            append(symbol, SYMBOL_BITS);
        }
        return length;
    }

    public int flip(int i) {
        if (i < 0 || i >= length) {
            return BAD;
        }
        line[i] = line[i] ^ 1;
        return line[i];
    }

    public int drop(int i) {
        if (i < 0 || i >= length) {
            return BAD;
        }
        length--;
        for (int at = i; at < length; at++) {
            line[at] = line[at + 1];
        }
        return length;
    }

    public int insert(int i, boolean one) {
        if (i < 0 || i > length) {
            return BAD;
        }
        if (length >= CAPACITY) {
            return FULL;
        }
        for (int at = length; at > i; at--) {
            line[at] = line[at - 1];
        }
        line[i] = one ? 1 : 0;
        length++;
        return length;
    }

    public int clear() {
        int had = length;
        length = 0;
        return had;
    }

    public int bits() {
        return length;
    }

    public int bit(int i) {
        if (i < 0 || i >= length) {
            return BAD;
        }
        return line[i];
    }

    public int frames() {
        receive();
        return taken;
    }

    public int place(int k) {
        receive();
        if (k < 0 || k >= taken) {
            return BAD;
        }
        return places[k];
    }

    public int message(int k) {
        receive();
        if (k < 0 || k >= taken) {
            return BAD;
        }
        int receivedEven = receivedWord(places[k], 0);
        int receivedOdd = receivedWord(places[k], 1);
        int even = nearCodeWord(receivedEven);
        int odd = nearCodeWord(receivedOdd);
        if (even == LOST || odd == LOST) {
            return LOST;
        }
        return messageOf(even, odd);
    }

    public int mended(int k) {
        receive();
        if (k < 0 || k >= taken) {
            return BAD;
        }
        int receivedEven = receivedWord(places[k], 0);
        int receivedOdd = receivedWord(places[k], 1);
        return symbolsMended(receivedEven) + symbolsMended(receivedOdd);
    }

    public int good() {
        receive();
        int whole = 0;
        for (int k = 0; k < taken; k++) {
            int receivedEven = receivedWord(places[k], 0);
            int receivedOdd = receivedWord(places[k], 1);
            if (nearCodeWord(receivedEven) != LOST && nearCodeWord(receivedOdd) != LOST) {
                whole++;
            }
        }
        return whole;
    }

    /**
     * Hunting and having a miss behave alike at every place: a sight is taken, and anything else
     * sends one on to the next place, hunting. So one flag, whether a frame would be taken
     * without a sight, is all that receiving has to remember.
     */
    private void receive() {
        taken = 0;
        boolean trusting = false;
        for (int at = 0; at + FRAME_BITS <= length && taken < MOST_FRAMES; at++) {
            boolean sight = isSight(at);
            if (sight || trusting) {
                places[taken] = at;
                taken++;
                at += FRAME_BITS - 1; // the loop itself goes the last one of the frame's bits
            }
            trusting = sight;
        }
    }

    private boolean isSight(int place) {
        int wrong = readBits(place, MARKER_BITS) ^ MARKER;
        int differences = 0;
        for (int i = 0; i < MARKER_BITS; i++) {
            differences += (wrong >> i) & 1;
        }
        return differences <= MARKER_SLACK;
    }

    private int readBits(int place, int count) {
        int value = 0;
        for (int at = place; at < place + count; at++) {
            value = value << 1 | line[at];
        }
        return value;
    }

    private void append(int value, int count) {
        for (int shift = count - 1; shift >= 0; shift--) {
            line[length] = (value >> shift) & 1;
            length++;
        }
    }

    /** The word made of the frame's symbols first, first + 2 and so on, as they came in. */
    private int receivedWord(int place, int first) {
        int word = 0;
        for (int i = 0; i < WORD_SYMBOLS; i++) {
            int j = 2 * i + first;
            int start = place + MARKER_BITS + j * SYMBOL_BITS;
            int symbol = readBits(start, SYMBOL_BITS) ^ whitener(j);
            word |= symbol << (i * SYMBOL_BITS);
        }
        return word;
    }

    private int symbolsMended(int received) {
        int word = nearCodeWord(received);
        return word == LOST ? 0 : differingSymbols(received, word);
    }

    private int nearCodeWord(int received) {
        for (int payload = 0; payload < CODE_WORDS; payload++) {
            if (differingSymbols(received, codeWords[payload]) <= MOST_MENDED) {
                return codeWords[payload];
            }
        }
        return LOST;
    }

    private static int differingSymbols(int first, int second) {
        int changes = first ^ second;
        int count = 0;
        for (int i = 0; i < WORD_SYMBOLS; i++) {
            if (symbolOf(changes, i) != 0) {
                count++;
            }
        }
        return count;
    }

    private static int symbolOf(int word, int i) {
        return (word >> (i * SYMBOL_BITS)) & SYMBOL_MASK;
    }

    /** What symbol j of a frame is changed by on the line. */
    private static int whitener(int j) {
        return (j * j + 3 * j + 5) & SYMBOL_MASK;
    }

    /** Every second symbol of a message, from the given one on, as an index of codeWords. */
    private static int payloadOf(int message, int first) {
        int payload = 0;
        for (int i = 0; i < MESSAGE_SYMBOLS / 2; i++) {
            int fromLowest = MESSAGE_SYMBOLS - 1 - (2 * i + first);
            payload |= symbolOf(message, fromLowest) << (i * SYMBOL_BITS);
        }
        return payload;
    }

    private static int messageOf(int even, int odd) {
        int message = 0;
        for (int r = 0; r < MESSAGE_SYMBOLS; r++) {
            int word = r % 2 == 0 ? even : odd;
            message = message << SYMBOL_BITS | symbolOf(word, CHECK_SYMBOLS + r / 2);
        }
        return message;
    }

    /** The check symbols are what is left of the payload, moved up, after division by GENERATOR. */
    private static int codeWordOf(int payload) {
        int rest = payload << CHECK_BITS;
        for (int i = WORD_SYMBOLS - 1; i >= CHECK_SYMBOLS; i--) {
            int factor = symbolOf(rest, i);
            rest ^= generatorTimes(factor) << ((i - CHECK_SYMBOLS) * SYMBOL_BITS);
        }
        return payload << CHECK_BITS | rest;
    }

    private static int generatorTimes(int factor) {
        int result = 0;
        for (int i = 0; i <= CHECK_SYMBOLS; i++) {
            int coefficient = symbolOf(GENERATOR, i);
            result |= product(coefficient, factor) << (i * SYMBOL_BITS);
        }
        return result;
    }

    private static int product(int p, int q) {
        int result = 0;
        for (int k = 0; k < SYMBOL_BITS; k++) {
            if (((q >> k) & 1) != 0) {
                result ^= p << k;
            }
        }
        for (int d = SYMBOL_BITS - 1; d >= 0; d--) {
            if (result >= 8 << d) {
                result ^= FIELD_POLYNOMIAL << d;
            }
        }
        return result;
    }
}
