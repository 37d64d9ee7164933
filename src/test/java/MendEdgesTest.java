/**
 * The terms from symbol to frame, and promises 11 to 13: each sentence that names a boundary case,
 * with a test of its own.
 */
public final class MendEdgesTest {
    private static final int BAD = DeepSpaceLink.BAD;
    private static final int LOST = DeepSpaceLink.LOST;
    private static final int[] MESSAGES = {0, 1, 0123456, 0707070, 0765432, 262142, 262143};

    public static void main(String[] args) {
        codeSentences();
        frameSentences();
        Check.sentence("Promise 11: of both words, mended", MendEdgesTest::messageUpToTheMost);
        Check.sentence("Promise 11: there is no frame k: BAD", MendEdgesTest::messageOfNone);
        Check.sentence("Promise 11: one of the two: LOST", MendEdgesTest::messageLost);
        Check.sentence("Promise 11: in this order", MendEdgesTest::messageOfNoneAmongLost);
        Check.sentence("Promise 12: changed, in both words", MendEdgesTest::mendedFromNoneToMost);
        Check.sentence("Promise 12: LOST counts as 0", MendEdgesTest::mendedWithALostWord);
        Check.sentence("Promise 12: BAD if there is none", MendEdgesTest::mendedOfNone);
        Check.sentence("Promise 13: from none to six", MendEdgesTest::goodFromNoneToMost);
        Check.sentence("Promise 13: no word is lost", MendEdgesTest::goodWithLostWords);
        Check.sentence("Promise 13: of the frames taken", MendEdgesTest::goodOfTakenFrames);
        Check.end();
    }

    private static void codeSentences() {
        Check.sentence("Terms: a symbol is from 0 to 7", MendEdgesTest::everySymbol);
        Check.sentence("Terms: as long as it is above 7", MendEdgesTest::productsAroundSeven);
        Check.sentence("Terms: a code word: sums are 0", MendEdgesTest::everyCodeWord);
        Check.sentence("Terms: mended, at most two places", MendEdgesTest::twoPlacesAndThree);
        Check.sentence("Terms: there is at most one", MendEdgesTest::threePlacesIsAnother);
        Check.sentence("Terms: else they are lost", MendEdgesTest::farFromAllCodeWords);
    }

    private static void frameSentences() {
        Check.sentence("Terms: m0 the highest", MendEdgesTest::everyDigitAlone);
        Check.sentence("Terms: its frame is 50 bits", MendEdgesTest::firstAndLastOfAFrame);
        Check.sentence("Terms: three bits, the highest first", MendEdgesTest::highestBitFirst);
        Check.sentence("Terms: s(2 i) is ai, s(2 i + 1) is bi", MendEdgesTest::wordsTakeTurns);
        Check.sentence("Terms: (j * j + 3 * j + 5) & 7", MendEdgesTest::changesWrapAround);
    }

    /** The 14 symbols of the only frame, as they were before each was changed by its number. */
    private static int[] symbolsOf(DeepSpaceLink x) {
        int[] changes = {5, 1, 7, 7, 1, 5, 3, 3, 5, 1, 7, 7, 1, 5};
        int[] symbols = new int[14];
        for (int j = 0; j < 14; j++) {
            int at = 8 + 3 * j;
            symbols[j] = (4 * x.bit(at) + 2 * x.bit(at + 1) + x.bit(at + 2)) ^ changes[j];
        }
        return symbols;
    }

    private static int[] wordOf(int[] symbols, int word) {
        int[] c = new int[7];
        for (int i = 0; i < 7; i++) {
            c[i] = symbols[2 * i + word];
        }
        return c;
    }

    /** Adds seven symbols to one of the two words of the frame at place 0. */
    private static void spoilAll(DeepSpaceLink x, int word, int... changes) {
        for (int i = 0; i < 7; i++) {
            Lines.spoil(x, 0, word, i, changes[i]);
        }
    }

    private static void answers(String when, DeepSpaceLink x, int k, int message, int mended) {
        Check.due(when + ": message(" + k + ")", x.message(k), message);
        Check.due(when + ": mended(" + k + ")", x.mended(k), mended);
    }

    private static void everySymbol() {
        for (int symbol = 0; symbol <= 7; symbol++) {
            for (int digit = 0; digit < 6; digit++) {
                int message = symbol << 3 * digit;
                answers("alone", Lines.sent(message), 0, message, 0);
                int among = 0777777 ^ message;
                answers("among sevens", Lines.sent(among), 0, among, 0);
            }
        }
    }

    private static void productsAroundSeven() {
        // With m0 alone, c0 to c4 are 3, 2, 1, 3 and 1 times m0. 2 times 3 is 6 and stays; 2 times
        // 4 is 8 before the change and 3 after it; 3 times 5 is 15 before it and 4 after it.
        String[] words = {
            "0000000", "3213100", "6426200", "5635300", "7347400", "4154500", "1761600", "2572700"
        };
        for (int m0 = 0; m0 <= 7; m0++) {
            int[] c = wordOf(symbolsOf(Lines.sent(m0 << 15)), 0);
            for (int i = 0; i < 7; i++) {
                Check.due("c" + i + " with m0 = " + m0, c[i], words[m0].charAt(i) - '0');
            }
        }
    }

    private static void everyCodeWord() {
        for (int three = 0; three < 512; three++) {
            int c4 = three >> 6;
            int c5 = three >> 3 & 7;
            int c6 = three & 7;
            int spread = c4 << 12 | c5 << 6 | c6;
            isCodeWord(wordOf(symbolsOf(Lines.sent(spread << 3)), 0), c4, c5, c6);
            isCodeWord(wordOf(symbolsOf(Lines.sent(spread)), 1), c4, c5, c6);
        }
    }

    private static void isCodeWord(int[] c, int c4, int c5, int c6) {
        String which = "the word with " + c4 + " " + c5 + " " + c6;
        Check.due(which + ": c4", c[4], c4);
        Check.due(which + ": c5", c[5], c5);
        Check.due(which + ": c6", c[6], c6);
        for (int k = 1; k <= 4; k++) {
            int sum = 0;
            for (int i = 0; i < 7; i++) {
                int term = c[i];
                for (int times = 0; times < k * i; times++) {
                    term = LinkModel.product(term, 2);
                }
                sum ^= term;
            }
            Check.due(which + ": the sum for k = " + k, sum, 0);
        }
    }

    private static void twoPlacesAndThree() {
        for (int message : MESSAGES) {
            for (int word = 0; word < 2; word++) {
                for (int last = 2; last < 7; last++) {
                    DeepSpaceLink x = Lines.sent(message);
                    answers("no place", x, 0, message, 0);
                    Lines.spoil(x, 0, word, 0, 1);
                    answers("one place", x, 0, message, 1);
                    Lines.spoil(x, 0, word, last, 7);
                    answers("two places", x, 0, message, 2);
                    Lines.spoil(x, 0, word, 1, 4);
                    int three = x.message(0);
                    Check.due("three places answer " + message, three == message ? 1 : 0, 0);
                    Lines.spoil(x, 0, word, 0, 1);
                    answers("two of three", x, 0, message, 2);
                }
            }
        }
    }

    private static void threePlacesIsAnother() {
        // 3 2 1 3 1 0 0 is a code word: what is two places away from it is three or four from 0.
        DeepSpaceLink x = Lines.sent(0);
        spoilAll(x, 0, 3, 2, 1, 0, 0, 0, 0);
        answers("three from 0, two from another", x, 0, 0100000, 2);
        DeepSpaceLink y = Lines.sent(0);
        spoilAll(y, 1, 0, 0, 0, 3, 1, 0, 0);
        answers("two from 0, three from another", y, 0, 0, 2);
        DeepSpaceLink z = Lines.sent(0);
        spoilAll(z, 1, 3, 2, 1, 0, 1, 7, 0);
        answers("five from 0, two from another", z, 0, 0010000, 2);
        DeepSpaceLink w = Lines.sent(0);
        spoilAll(w, 1, 3, 2, 1, 3, 1, 0, 0);
        answers("another", w, 0, 0010000, 0);
    }

    private static void farFromAllCodeWords() {
        for (int message : MESSAGES) {
            for (int word = 0; word < 2; word++) {
                DeepSpaceLink three = Lines.sent(message);
                spoilAll(three, word, 1, 1, 1, 0, 0, 0, 0);
                answers("three from the nearest", three, 0, LOST, 0);
                DeepSpaceLink four = Lines.sent(message);
                spoilAll(four, word, 1, 2, 7, 7, 0, 0, 0);
                answers("four from the nearest", four, 0, LOST, 0);
                spoilAll(three, word, 0, 0, 1, 0, 0, 0, 0);
                answers("two from it again", three, 0, message, 2);
            }
        }
    }

    private static void everyDigitAlone() {
        int[] digits = {0700000, 0070000, 0007000, 0000700, 0000070, 0000007};
        for (int r = 0; r < 6; r++) {
            int[] symbols = symbolsOf(Lines.sent(digits[r]));
            for (int other = 0; other < 6; other++) {
                Check.due("m" + other + " of m" + r, symbols[8 + other], other == r ? 7 : 0);
            }
        }
        answers("all digits 0", Lines.sent(0), 0, 0, 0);
        answers("all digits 7", Lines.sent(262143), 0, 262143, 0);
    }

    private static void firstAndLastOfAFrame() {
        Check.due("the length of a frame", Lines.FRAME_OF_0.length(), 50);
        DeepSpaceLink x = Lines.sent(0, 0);
        Lines.holds("two frames", x, Lines.FRAME_OF_0 + Lines.FRAME_OF_0);
        // Bit 49 belongs to the frame, bits 7 and 50 do not belong to its symbols.
        x.flip(49);
        answers("the last bit wrong", x, 0, 0, 1);
        answers("the next frame", x, 1, 0, 0);
        x.flip(50);
        x.flip(7);
        answers("the bits beside the symbols wrong", x, 0, 0, 1);
        x.flip(8);
        answers("the first bit behind the marker wrong", x, 0, 0, 2);
    }

    private static void highestBitFirst() {
        DeepSpaceLink four = Lines.sent(0000400);
        DeepSpaceLink one = Lines.sent(0000001);
        // m3 is symbol 11 of the frame, changed by 7; m5 is symbol 13, changed by 5.
        Check.due("the highest bit of m3", four.bit(41), 0);
        Check.due("the middle bit of m3", four.bit(42), 1);
        Check.due("the lowest bit of m3", four.bit(43), 1);
        Check.due("the highest bit of m5", one.bit(47), 1);
        Check.due("the middle bit of m5", one.bit(48), 0);
        Check.due("the lowest bit of m5", one.bit(49), 0);
    }

    private static void wordsTakeTurns() {
        // 7 7 7 7 7 7 7 is a code word, since the powers of 2 that are added up are all there are.
        int[] first = symbolsOf(Lines.sent(0707070));
        int[] second = symbolsOf(Lines.sent(0070707));
        for (int j = 0; j < 14; j++) {
            Check.due("s" + j + " with a alone", first[j], j % 2 == 0 ? 7 : 0);
            Check.due("s" + j + " with b alone", second[j], j % 2 == 0 ? 0 : 7);
        }
    }

    private static void changesWrapAround() {
        // 5, 9, 15, 23, 33, 45, 59, 75, 93, 113, 135, 159, 185 and 213 without the wrap-around.
        String changes = "51771533517715";
        DeepSpaceLink x = Lines.sent(0);
        for (int j = 0; j < 14; j++) {
            int at = 8 + 3 * j;
            int symbol = 4 * x.bit(at) + 2 * x.bit(at + 1) + x.bit(at + 2);
            Check.due("symbol " + j + " of message 0", symbol, changes.charAt(j) - '0');
        }
    }

    private static void messageUpToTheMost() {
        for (int message : MESSAGES) {
            DeepSpaceLink x = Lines.sent(5, message);
            Check.due("message(1)", x.message(1), message);
            for (int wrong = 0; wrong < 4; wrong++) {
                Lines.spoil(x, 50, wrong % 2, 6 - wrong, 1 + wrong);
                Check.due("message(1) with " + (wrong + 1) + " wrong", x.message(1), message);
            }
            Check.due("message(0)", x.message(0), 5);
        }
    }

    private static void messageOfNone() {
        DeepSpaceLink none = new DeepSpaceLink();
        DeepSpaceLink one = Lines.sent(9);
        DeepSpaceLink six = Lines.sent(0, 1, 2, 3, 4, 5);
        for (int k : Lines.NEVER) {
            Check.due("message(" + k + ") of none", none.message(k), BAD);
            Check.due("message(" + k + ") of one", one.message(k), BAD);
            Check.due("message(" + k + ") of six", six.message(k), BAD);
        }
        Check.due("message(0) of none", none.message(0), BAD);
        Check.due("message(0) of one", one.message(0), 9);
        Check.due("message(1) of one", one.message(1), BAD);
        Check.due("message(5) of six", six.message(5), 5);
        Check.due("message(6) of six", six.message(6), BAD);
        six.drop(299);
        Check.due("message(5) of five", six.message(5), BAD);
        Check.due("message(4) of five", six.message(4), 4);
        six.clear();
        Check.due("message(0) after clear", six.message(0), BAD);
    }

    private static void messageLost() {
        for (int message : MESSAGES) {
            DeepSpaceLink first = Lines.sent(message);
            Lines.lose(first, 0, 0);
            Check.due("the first word lost", first.message(0), LOST);
            DeepSpaceLink second = Lines.sent(message);
            Lines.lose(second, 0, 1);
            Check.due("the second word lost", second.message(0), LOST);
            Lines.lose(second, 0, 0);
            Check.due("both words lost", second.message(0), LOST);
        }
        DeepSpaceLink x = Lines.sent(10, 11, 12, 13, 14, 15);
        Lines.lose(x, 250, 1);
        for (int k = 0; k < 5; k++) {
            Check.due("message(" + k + ") before a lost one", x.message(k), 10 + k);
        }
        Check.due("message(5)", x.message(5), LOST);
        Lines.lose(x, 0, 0);
        Check.due("message(0)", x.message(0), LOST);
        Check.due("message(1) behind a lost one", x.message(1), 11);
    }

    private static void messageOfNoneAmongLost() {
        DeepSpaceLink x = Lines.sent(77);
        Lines.lose(x, 0, 0);
        Lines.lose(x, 0, 1);
        for (int k : Lines.NEVER) {
            Check.due("message(" + k + ")", x.message(k), BAD);
        }
        Check.due("message(1)", x.message(1), BAD);
        Check.due("message(0)", x.message(0), LOST);
        x.drop(49);
        Check.due("message(0) of none", x.message(0), BAD);
    }

    private static void mendedFromNoneToMost() {
        int[] places = {0, 50, 250};
        for (int place : places) {
            DeepSpaceLink x = Lines.sent(0, 1, 2, 3, 4, 5);
            Check.due("mended, none wrong", x.mended(place / 50), 0);
            Lines.spoil(x, place, 0, 0, 7);
            Check.due("mended, 1 and 0 wrong", x.mended(place / 50), 1);
            Lines.spoil(x, place, 0, 6, 1);
            Check.due("mended, 2 and 0 wrong", x.mended(place / 50), 2);
            Lines.spoil(x, place, 1, 6, 7);
            Check.due("mended, 2 and 1 wrong", x.mended(place / 50), 3);
            Lines.spoil(x, place, 1, 0, 3);
            Check.due("mended, 2 and 2 wrong", x.mended(place / 50), 4);
            Lines.spoil(x, place, 0, 0, 7);
            Lines.spoil(x, place, 0, 6, 1);
            Check.due("mended, 0 and 2 wrong", x.mended(place / 50), 2);
        }
        // A symbol counts once, however many of its bits are wrong; the marker's bits do not count.
        DeepSpaceLink y = Lines.sent(0);
        for (int change = 1; change <= 7; change++) {
            Lines.spoil(y, 0, 0, 3, change);
            Check.due("mended, a symbol wrong by " + change, y.mended(0), 1);
            Lines.spoil(y, 0, 0, 3, change);
        }
        y.flip(0);
        Check.due("mended, a wrong marker", y.mended(0), 0);
    }

    private static void mendedWithALostWord() {
        for (int word = 0; word < 2; word++) {
            DeepSpaceLink x = Lines.sent(0123456);
            Lines.lose(x, 0, word);
            Check.due("one lost, none wrong", x.mended(0), 0);
            Lines.spoil(x, 0, 1 - word, 0, 2);
            Check.due("one lost, one wrong", x.mended(0), 1);
            Lines.spoil(x, 0, 1 - word, 1, 2);
            Check.due("one lost, two wrong", x.mended(0), 2);
            DeepSpaceLink y = Lines.sent(0123456);
            Lines.lose(y, 0, word);
            Lines.lose(y, 0, 1 - word);
            Check.due("both lost", y.mended(0), 0);
        }
    }

    private static void mendedOfNone() {
        DeepSpaceLink none = new DeepSpaceLink();
        DeepSpaceLink one = Lines.sent(9);
        DeepSpaceLink six = Lines.full();
        Lines.lose(one, 0, 0);
        for (int k : Lines.NEVER) {
            Check.due("mended(" + k + ") of none", none.mended(k), BAD);
            Check.due("mended(" + k + ") of one", one.mended(k), BAD);
            Check.due("mended(" + k + ") of six", six.mended(k), BAD);
        }
        Check.due("mended(0) of none", none.mended(0), BAD);
        Check.due("mended(0) of one", one.mended(0), 0);
        Check.due("mended(1) of one", one.mended(1), BAD);
        Check.due("mended(5) of six", six.mended(5), 0);
        Check.due("mended(6) of six", six.mended(6), BAD);
        six.drop(299);
        Check.due("mended(5) of five", six.mended(5), BAD);
        six.clear();
        Check.due("mended(0) after clear", six.mended(0), BAD);
    }

    private static void goodFromNoneToMost() {
        DeepSpaceLink x = new DeepSpaceLink();
        Check.due("good() of none", x.good(), 0);
        for (int n = 1; n <= 6; n++) {
            x.send(262144 - n);
            Check.due("good() of " + n, x.good(), n);
        }
        x.send(0);
        Check.due("good() after FULL", x.good(), 6);
        // Lost ones lie before, between and behind the good ones on the way.
        int[] order = {2, 5, 0, 3, 4, 1};
        for (int n = 0; n < 6; n++) {
            Lines.lose(x, 50 * order[n], n % 2);
            Check.due("good() with " + (n + 1) + " lost", x.good(), 5 - n);
            Check.due("frames() with " + (n + 1) + " lost", x.frames(), 6);
        }
    }

    private static void goodWithLostWords() {
        for (int word = 0; word < 2; word++) {
            DeepSpaceLink x = Lines.sent(1, 2);
            Lines.spoil(x, 50, word, 0, 1);
            Check.due("good(), one wrong", x.good(), 2);
            Lines.spoil(x, 50, word, 1, 1);
            Check.due("good(), two wrong", x.good(), 2);
            Lines.spoil(x, 50, word, 2, 1);
            Check.due("good(), a word lost", x.good(), 1);
            Lines.lose(x, 50, 1 - word);
            Check.due("good(), both words lost", x.good(), 1);
            Lines.lose(x, 0, word);
            Check.due("good(), the other frame too", x.good(), 0);
        }
    }

    private static void goodOfTakenFrames() {
        DeepSpaceLink x = Lines.sent(1, 2, 3);
        x.flip(50);
        x.flip(51);
        Check.due("good() with a missed frame", x.good(), 3);
        x.flip(100);
        x.flip(101);
        Check.due("good() with one that is not taken", x.good(), 2);
        x.flip(100);
        Check.due("good() with a spoilt marker", x.good(), 3);
        x.drop(149);
        Check.due("good() with the last bit gone", x.good(), 2);
        x.clear();
        Check.due("good() after clear", x.good(), 0);
    }
}
