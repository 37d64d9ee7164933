/** Promises 11 to 13: what is made of a frame's two words. */
public final class MendTest {
    private static final int[] MESSAGES = {0, 0100000, 0654321, 0777777};

    public static void main(String[] args) {
        theCodeIsAsTheDocumentSays();
        everyMessageComesBack();
        upToTwoWrongSymbolsAWordAreMended();
        threeWrongSymbolsAreLostOrAnotherWord();
        aLostWordLeavesTheOtherOnesCount();
        theMarkerIsNotMended();
        wrongFrameNumbersAreBad();
        goodCountsWholeFrames();
        Check.end();
    }

    private static void answers(String when, DeepSpaceLink x, int message, int mended) {
        Check.due(when + ": message(0)", x.message(0), message);
        Check.due(when + ": mended(0)", x.mended(0), mended);
        Check.due(when + ": good()", x.good(), message == DeepSpaceLink.LOST ? 0 : 1);
    }

    private static void theCodeIsAsTheDocumentSays() {
        Check.due("code words", LinkModel.codeSize(), 512);
        Check.due("4 times 4", LinkModel.product(4, 4), 6);
        Check.due("7 times 7", LinkModel.product(7, 7), 3);
    }

    private static void everyMessageComesBack() {
        DeepSpaceLink x = new DeepSpaceLink();
        int calls = 0;
        for (int message = 0; message <= 262143; message++) {
            if (calls + 3 > 512) {
                x = new DeepSpaceLink();
                calls = 0;
            }
            x.send(message);
            Check.due("message(0) of " + message, x.message(0), message);
            x.clear();
            calls += 3;
        }
        for (int message = 262143 - 100; message <= 262143; message++) {
            answers("untouched " + message, Lines.sent(message), message, 0);
        }
    }

    private static void upToTwoWrongSymbolsAWordAreMended() {
        for (int message : MESSAGES) {
            for (int word = 0; word < 2; word++) {
                for (int first = 0; first < 49; first++) {
                    DeepSpaceLink one = Lines.sent(message);
                    Lines.spoil(one, 0, word, first / 7, first % 7 + 1);
                    answers("one wrong", one, message, 1);
                    for (int second = 0; second < first / 7 * 7; second++) {
                        DeepSpaceLink two = Lines.sent(message);
                        Lines.spoil(two, 0, word, first / 7, first % 7 + 1);
                        Lines.spoil(two, 0, word, second / 7, second % 7 + 1);
                        answers("two wrong", two, message, 2);
                        // The other word has its own two.
                        Lines.spoil(two, 0, 1 - word, second / 7, second % 7 + 1);
                        answers("two and one wrong", two, message, 3);
                        Lines.spoil(two, 0, 1 - word, first / 7, 7 - first % 7);
                        answers("two and two wrong", two, message, 4);
                    }
                }
            }
        }
    }

    private static void threeWrongSymbolsAreLostOrAnotherWord() {
        // 3 2 1 3 1 0 0 is a code word, so 3 2 1 0 0 0 0 is two away from it and three from 0.
        DeepSpaceLink x = Lines.sent(0);
        Lines.spoil(x, 0, 0, 0, 3);
        Lines.spoil(x, 0, 0, 1, 2);
        Lines.spoil(x, 0, 0, 2, 1);
        answers("3 2 1 0 0 0 0", x, 0100000, 2);
        Lines.spoil(x, 0, 0, 3, 3);
        answers("3 2 1 3 0 0 0", x, 0100000, 1);
        Lines.spoil(x, 0, 0, 4, 1);
        answers("3 2 1 3 1 0 0", x, 0100000, 0);
        int lost = 0;
        for (int changes = 0; changes < 343; changes++) {
            int[] symbols = {0, changes % 7 + 1, 0, changes / 7 % 7 + 1, changes / 49 + 1, 0, 0};
            DeepSpaceLink y = Lines.sent(0);
            Lines.spoil(y, 0, 1, 1, symbols[1]);
            Lines.spoil(y, 0, 1, 3, symbols[3]);
            Lines.spoil(y, 0, 1, 4, symbols[4]);
            int[] near = LinkModel.mend(symbols);
            if (near == null) {
                lost++;
                answers("three wrong", y, DeepSpaceLink.LOST, 0);
            } else {
                int message = near[4] * 010000 + near[5] * 0100 + near[6];
                answers("three wrong", y, message, LinkModel.distance(symbols, near));
            }
        }
        Check.due("some are lost and some are not", lost > 0 && lost < 343 ? 1 : 0, 1);
    }

    private static void aLostWordLeavesTheOtherOnesCount() {
        for (int word = 0; word < 2; word++) {
            DeepSpaceLink x = Lines.sent(0123456);
            Lines.lose(x, 0, word);
            answers("one word lost", x, DeepSpaceLink.LOST, 0);
            Lines.spoil(x, 0, 1 - word, 6, 5);
            answers("lost and one wrong", x, DeepSpaceLink.LOST, 1);
            Lines.spoil(x, 0, 1 - word, 0, 7);
            answers("lost and two wrong", x, DeepSpaceLink.LOST, 2);
            DeepSpaceLink y = Lines.sent(0123456);
            Lines.lose(y, 0, word);
            Lines.lose(y, 0, 1 - word);
            answers("both lost", y, DeepSpaceLink.LOST, 0);
        }
    }

    private static void theMarkerIsNotMended() {
        DeepSpaceLink x = Lines.sent(4711);
        x.flip(3);
        answers("a wrong marker bit", x, 4711, 0);
        Check.due("bit(3) stays as it is", x.bit(3), 0);
        Lines.spoil(x, 0, 0, 4, 6);
        int spoilt = x.bit(8 + 24);
        answers("a wrong symbol", x, 4711, 1);
        Check.due("mending leaves the line alone", x.bit(8 + 24), spoilt);
        answers("asked again", x, 4711, 1);
    }

    private static void wrongFrameNumbersAreBad() {
        DeepSpaceLink x = Lines.sent(12);
        Lines.lose(x, 0, 0);
        int[] outside = {-1, 1, 2, 6, Integer.MIN_VALUE, Integer.MAX_VALUE};
        for (int k : outside) {
            Check.due("message(" + k + ")", x.message(k), DeepSpaceLink.BAD);
            Check.due("mended(" + k + ")", x.mended(k), DeepSpaceLink.BAD);
        }
        x.clear();
        Check.due("message(0) of none", x.message(0), DeepSpaceLink.BAD);
        Check.due("mended(0) of none", x.mended(0), DeepSpaceLink.BAD);
    }

    private static void goodCountsWholeFrames() {
        DeepSpaceLink x = new DeepSpaceLink();
        Check.due("good() of none", x.good(), 0);
        for (int n = 0; n < 6; n++) {
            x.send(1000 * n);
            Check.due("good() of " + (n + 1), x.good(), n + 1);
        }
        Lines.spoil(x, 50, 1, 3, 2);
        Check.due("good() with one mended", x.good(), 6);
        Lines.lose(x, 100, 0);
        Check.due("good() with one lost", x.good(), 5);
        Lines.lose(x, 100, 1);
        Check.due("good() with one lost twice", x.good(), 5);
        Lines.lose(x, 250, 1);
        Check.due("good() with two lost", x.good(), 4);
        Check.due("frames() with two lost", x.frames(), 6);
        // A frame taken in spite of its marker is as good as any.
        x.flip(200);
        x.flip(201);
        Check.due("good() with a miss", x.good(), 4);
        Check.due("message(4) with a miss", x.message(4), 4000);
        Check.due("message(2), lost", x.message(2), DeepSpaceLink.LOST);
        Check.due("message(1), mended", x.message(1), 1000);
        Check.due("mended(1)", x.mended(1), 1);
        Check.due("mended(5), lost", x.mended(5), 0);
    }
}
