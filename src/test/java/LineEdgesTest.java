/** Promises 1 to 8: each sentence that names a boundary case, with a test of its own. */
public final class LineEdgesTest {
    private static final int BAD = DeepSpaceLink.BAD;
    private static final int FULL = DeepSpaceLink.FULL;
    private static final int[] NO_MESSAGE = {
        -1, -2, -262143, -262144, 262144, 262145, 524287,
        Integer.MIN_VALUE, Integer.MIN_VALUE + 262143, Integer.MAX_VALUE
    };

    public static void main(String[] args) {
        Check.sentence("What it is: used for at most 512 calls", LineEdgesTest::lastOfAllCalls);
        Check.sentence("What it is: 512 calls of one kind", LineEdgesTest::allCallsAlike);
        Check.sentence("Terms: up to 300 bits, numbered from 0", LineEdgesTest::longestLine);
        Check.sentence("Promise 1: the line is empty", LineEdgesTest::newLine);
        sendSentences();
        flipSentences();
        dropSentences();
        insertSentences();
        Check.sentence("Promise 6: makes the line empty", LineEdgesTest::clearLeavesNothing);
        Check.sentence("Promise 6: answers how many bits it had", LineEdgesTest::clearAnswers);
        Check.sentence("Promise 7: the number of bits", LineEdgesTest::bitsFromNoneToAll);
        Check.sentence("Promise 8: bit i", LineEdgesTest::bitFirstAndLast);
        Check.sentence("Promise 8: BAD if there is none", LineEdgesTest::bitThatIsNot);
        Check.end();
    }

    private static void sendSentences() {
        Check.sentence("Promise 2: at the end of the line", LineEdgesTest::sendAtTheEnd);
        Check.sentence("Promise 2: message outside 0..262143: BAD", LineEdgesTest::sendOutside);
        Check.sentence("Promise 2: more than 300 bits: FULL", LineEdgesTest::sendWithoutRoom);
        Check.sentence("Promise 2: in this order", LineEdgesTest::sendOutsideWithoutRoom);
        Check.sentence("Promise 2: answers the number of bits", LineEdgesTest::sendAnswers);
    }

    private static void flipSentences() {
        Check.sentence("Promise 3: turns a bit over", LineEdgesTest::flipFirstAndLast);
        Check.sentence("Promise 3: answers what it is then", LineEdgesTest::flipAnswers);
        Check.sentence("Promise 3: BAD if there is no bit i", LineEdgesTest::flipOfNone);
    }

    private static void dropSentences() {
        Check.sentence("Promise 4: later ones move one down", LineEdgesTest::dropFirstAndLast);
        Check.sentence("Promise 4: the number of bits left", LineEdgesTest::dropAnswers);
        Check.sentence("Promise 4: BAD if there is no bit i", LineEdgesTest::dropOfNone);
    }

    private static void insertSentences() {
        Check.sentence("Promise 5: before bit i", LineEdgesTest::insertBeforeFirstAndLast);
        Check.sentence("Promise 5: or at the end", LineEdgesTest::insertAtTheEnd);
        Check.sentence("Promise 5: i below 0: BAD", LineEdgesTest::insertBelow);
        Check.sentence("Promise 5: above the number of bits: BAD", LineEdgesTest::insertAbove);
        Check.sentence("Promise 5: 300 bits are there: FULL", LineEdgesTest::insertWithoutRoom);
        Check.sentence("Promise 5: in this order", LineEdgesTest::insertOutsideWithoutRoom);
        Check.sentence("Promise 5: answers the number of bits", LineEdgesTest::insertAnswers);
    }

    /** An object that has had 511 calls; a symbol of each word is wrong in the frame it holds. */
    private static DeepSpaceLink almostUsedUp() {
        DeepSpaceLink x = Lines.sent(123456);
        x.flip(10);
        for (int call = 3; call <= 511; call++) {
            Check.due("call " + call + ": flip(49)", x.flip(49), call % 2 == 1 ? 0 : 1);
        }
        return x;
    }

    private static void lastOfAllCalls() {
        Check.due("call 512: send(7)", almostUsedUp().send(7), 100);
        Check.due("call 512: send(-1)", almostUsedUp().send(-1), BAD);
        Check.due("call 512: flip(49)", almostUsedUp().flip(49), 1);
        Check.due("call 512: drop(0)", almostUsedUp().drop(0), 49);
        Check.due("call 512: insert(50)", almostUsedUp().insert(50, true), 51);
        Check.due("call 512: clear()", almostUsedUp().clear(), 50);
        Check.due("call 512: bits()", almostUsedUp().bits(), 50);
        Check.due("call 512: bit(49)", almostUsedUp().bit(49), 0);
        Check.due("call 512: frames()", almostUsedUp().frames(), 1);
        Check.due("call 512: place(0)", almostUsedUp().place(0), 0);
        Check.due("call 512: message(0)", almostUsedUp().message(0), 123456);
        Check.due("call 512: mended(0)", almostUsedUp().mended(0), 2);
        Check.due("call 512: good()", almostUsedUp().good(), 1);
    }

    private static void allCallsAlike() {
        DeepSpaceLink sends = new DeepSpaceLink();
        DeepSpaceLink inserts = new DeepSpaceLink();
        DeepSpaceLink drops = new DeepSpaceLink();
        DeepSpaceLink clears = new DeepSpaceLink();
        for (int n = 1; n <= 512; n++) {
            Check.due("send number " + n, sends.send(n), n <= 6 ? 50 * n : FULL);
            Check.due("insert number " + n, inserts.insert(0, true), n <= 300 ? n : FULL);
            Check.due("drop number " + n, drops.drop(0), BAD);
            Check.due("clear number " + n, clears.clear(), 0);
        }
    }

    private static void longestLine() {
        DeepSpaceLink x = new DeepSpaceLink();
        for (int i = 0; i < 300; i++) {
            Check.due("insert(" + i + ")", x.insert(i, i == 0 || i == 299), i + 1);
        }
        Check.due("insert(300)", x.insert(300, true), FULL);
        Check.due("bits()", x.bits(), 300);
        Check.due("bit(-1)", x.bit(-1), BAD);
        Check.due("bit(0)", x.bit(0), 1);
        Check.due("bit(1)", x.bit(1), 0);
        Check.due("bit(298)", x.bit(298), 0);
        Check.due("bit(299)", x.bit(299), 1);
        Check.due("bit(300)", x.bit(300), BAD);
    }

    private static void newLine() {
        Lines.full(); // what another object holds is not seen
        DeepSpaceLink x = new DeepSpaceLink();
        Lines.holds("new", x, "");
        Lines.taken("new", x);
        Check.due("new: message(0)", x.message(0), BAD);
        Check.due("new: mended(0)", x.mended(0), BAD);
        Check.due("new: good()", x.good(), 0);
        Check.due("new: flip(0)", x.flip(0), BAD);
        Check.due("new: drop(0)", x.drop(0), BAD);
        Check.due("new: insert(1)", x.insert(1, true), BAD);
        Check.due("new: clear()", x.clear(), 0);
    }

    private static void sendAtTheEnd() {
        DeepSpaceLink x = Lines.of("1");
        x.send(0);
        Lines.holds("behind one bit", x, "1" + Lines.FRAME_OF_0);
        DeepSpaceLink y = Lines.full();
        Lines.holds("six frames", y, Lines.fullText());
    }

    private static void sendOutside() {
        for (int message : NO_MESSAGE) {
            DeepSpaceLink x = Lines.of("10");
            Check.due("send(" + message + ")", x.send(message), BAD);
            Lines.holds("a refused send", x, "10");
        }
        Check.due("send(0)", new DeepSpaceLink().send(0), 50);
        Check.due("send(1)", new DeepSpaceLink().send(1), 50);
        Check.due("send(262142)", new DeepSpaceLink().send(262142), 50);
        Check.due("send(262143)", new DeepSpaceLink().send(262143), 50);
    }

    private static void sendWithoutRoom() {
        for (int had = 251; had <= 300; had++) {
            DeepSpaceLink x = Lines.full();
            for (int left = 299; left >= had; left--) {
                x.drop(left);
            }
            Check.due("send(0) with " + had, x.send(0), FULL);
            Check.due("send(262143) with " + had, x.send(262143), FULL);
            Lines.holds("a refused send", x, Lines.fullText().substring(0, had));
        }
        DeepSpaceLink x = Lines.sent(0, 0, 0, 0, 0);
        Check.due("send(0) with 250", x.send(0), 300);
        Lines.holds("just room", x, Lines.fullText());
        DeepSpaceLink y = Lines.sent(0, 0, 0, 0, 0);
        y.drop(249);
        Check.due("send(0) with 249", y.send(0), 299);
    }

    private static void sendOutsideWithoutRoom() {
        DeepSpaceLink x = Lines.full();
        for (int message : NO_MESSAGE) {
            Check.due("full: send(" + message + ")", x.send(message), BAD);
        }
        Check.due("full: send(0)", x.send(0), FULL);
        Lines.holds("refused sends", x, Lines.fullText());
        DeepSpaceLink y = Lines.full();
        for (int left = 299; left >= 251; left--) {
            y.drop(left);
        }
        Check.due("251: send(262144)", y.send(262144), BAD);
        Check.due("251: send(-1)", y.send(-1), BAD);
        Check.due("251: send(0)", y.send(0), FULL);
    }

    private static void sendAnswers() {
        DeepSpaceLink x = new DeepSpaceLink();
        for (int n = 1; n <= 6; n++) {
            Check.due("send number " + n, x.send(262143), 50 * n);
            Check.due("bits()", x.bits(), 50 * n);
        }
        DeepSpaceLink y = Lines.of("1");
        Check.due("send behind one bit", y.send(0), 51);
    }

    private static void flipFirstAndLast() {
        DeepSpaceLink one = Lines.of("0");
        one.flip(0);
        Lines.holds("the only bit", one, "1");
        DeepSpaceLink x = Lines.of("00000");
        x.flip(0);
        Lines.holds("the first bit", x, "10000");
        x.flip(4);
        Lines.holds("the last bit", x, "10001");
        DeepSpaceLink full = Lines.full();
        full.flip(0);
        full.flip(299);
        String text = Lines.fullText();
        Lines.holds("a full line", full, "0" + text.substring(1, 299) + "0");
    }

    private static void flipAnswers() {
        DeepSpaceLink x = Lines.of("01");
        Check.due("flip(0)", x.flip(0), 1);
        Check.due("flip(0) again", x.flip(0), 0);
        Check.due("flip(1)", x.flip(1), 0);
        Check.due("flip(1) again", x.flip(1), 1);
        DeepSpaceLink full = Lines.full();
        Check.due("full: flip(299)", full.flip(299), 0);
        Check.due("full: flip(299) again", full.flip(299), 1);
    }

    private static void flipOfNone() {
        DeepSpaceLink x = Lines.of("1010");
        for (int i : Lines.NEVER) {
            Check.due("flip(" + i + ")", x.flip(i), BAD);
        }
        Check.due("flip(4)", x.flip(4), BAD);
        Check.due("flip(5)", x.flip(5), BAD);
        Lines.holds("refused flips", x, "1010");
        x.drop(3);
        Check.due("flip(3) when it is gone", x.flip(3), BAD);
        x.insert(3, false);
        Lines.holds("nothing is left of the refused flip", x, "1010");
        x.clear();
        Check.due("flip(0) after clear", x.flip(0), BAD);
        DeepSpaceLink full = Lines.full();
        for (int i : Lines.NEVER) {
            Check.due("full: flip(" + i + ")", full.flip(i), BAD);
        }
        Lines.holds("full: refused flips", full, Lines.fullText());
    }

    private static void dropFirstAndLast() {
        DeepSpaceLink x = Lines.of("10011");
        x.drop(0);
        Lines.holds("the first bit", x, "0011");
        x.drop(3);
        Lines.holds("the last bit", x, "001");
        x.drop(1);
        Lines.holds("a bit between", x, "01");
        String text = Lines.fullText();
        DeepSpaceLink first = Lines.full();
        first.drop(0);
        Lines.holds("the first of a full line", first, text.substring(1));
        DeepSpaceLink last = Lines.full();
        last.drop(299);
        Lines.holds("the last of a full line", last, text.substring(0, 299));
        DeepSpaceLink between = Lines.full();
        between.drop(298);
        Lines.holds("the last but one", between, text.substring(0, 298) + text.charAt(299));
    }

    private static void dropAnswers() {
        DeepSpaceLink x = Lines.full();
        for (int left = 299; left >= 0; left--) {
            Check.due("drop(0)", x.drop(0), left);
        }
        Check.due("drop(0) of none", x.drop(0), BAD);
        DeepSpaceLink y = Lines.full();
        for (int left = 299; left >= 0; left--) {
            Check.due("drop(" + left + ")", y.drop(left), left);
        }
        Check.due("drop(0) of none", y.drop(0), BAD);
    }

    private static void dropOfNone() {
        DeepSpaceLink x = Lines.of("1101");
        for (int i : Lines.NEVER) {
            Check.due("drop(" + i + ")", x.drop(i), BAD);
        }
        Check.due("drop(4)", x.drop(4), BAD);
        Check.due("drop(5)", x.drop(5), BAD);
        Lines.holds("refused drops", x, "1101");
        x.drop(3);
        Check.due("drop(3) when it is gone", x.drop(3), BAD);
        Lines.holds("refused drop", x, "110");
        x.clear();
        Check.due("drop(0) after clear", x.drop(0), BAD);
        Lines.holds("refused drop after clear", x, "");
        DeepSpaceLink full = Lines.full();
        for (int i : Lines.NEVER) {
            Check.due("full: drop(" + i + ")", full.drop(i), BAD);
        }
        Lines.holds("full: refused drops", full, Lines.fullText());
    }

    private static void insertBeforeFirstAndLast() {
        DeepSpaceLink x = Lines.of("0");
        x.insert(0, true);
        Lines.holds("before the only bit", x, "10");
        x.insert(1, true);
        Lines.holds("before the last bit", x, "110");
        x.insert(0, false);
        Lines.holds("before the first bit", x, "0110");
        String text = Lines.fullText().substring(0, 299);
        DeepSpaceLink first = Lines.full();
        first.drop(299);
        first.insert(0, false);
        Lines.holds("the 300th bit, first", first, "0" + text);
        DeepSpaceLink last = Lines.full();
        last.drop(299);
        last.insert(298, true);
        String expected = text.substring(0, 298) + "1" + text.charAt(298);
        Lines.holds("the 300th bit, last but one", last, expected);
    }

    private static void insertAtTheEnd() {
        DeepSpaceLink x = new DeepSpaceLink();
        Check.due("insert(0) into an empty line", x.insert(0, true), 1);
        Lines.holds("the first bit", x, "1");
        Check.due("insert(1)", x.insert(1, false), 2);
        Lines.holds("a false one", x, "10");
        Check.due("insert(2)", x.insert(2, true), 3);
        Lines.holds("a true one", x, "101");
        DeepSpaceLink full = Lines.full();
        full.drop(299);
        Check.due("insert(299)", full.insert(299, false), 300);
        Lines.holds("the 300th bit", full, Lines.fullText().substring(0, 299) + "0");
    }

    private static void insertBelow() {
        DeepSpaceLink x = Lines.of("01");
        int[] below = {-1, -2, -300, Integer.MIN_VALUE, Integer.MIN_VALUE + 1};
        for (int i : below) {
            Check.due("insert(" + i + ", true)", x.insert(i, true), BAD);
            Check.due("insert(" + i + ", false)", x.insert(i, false), BAD);
        }
        Lines.holds("refused inserts", x, "01");
        Check.due("empty: insert(-1)", new DeepSpaceLink().insert(-1, true), BAD);
        Check.due("insert(0)", x.insert(0, true), 3);
    }

    private static void insertAbove() {
        DeepSpaceLink x = Lines.of("01");
        int[] above = {3, 4, 299, 300, 301, Integer.MAX_VALUE - 1, Integer.MAX_VALUE};
        for (int i : above) {
            Check.due("insert(" + i + ", true)", x.insert(i, true), BAD);
            Check.due("insert(" + i + ", false)", x.insert(i, false), BAD);
        }
        Lines.holds("refused inserts", x, "01");
        Check.due("empty: insert(1)", new DeepSpaceLink().insert(1, true), BAD);
        Check.due("insert(2)", x.insert(2, true), 3);
        DeepSpaceLink almost = Lines.full();
        almost.drop(0);
        Check.due("299 bits: insert(300)", almost.insert(300, true), BAD);
        Check.due("299 bits: bits()", almost.bits(), 299);
    }

    private static void insertWithoutRoom() {
        DeepSpaceLink x = Lines.full();
        int[] places = {0, 1, 150, 298, 299, 300};
        for (int i : places) {
            Check.due("full: insert(" + i + ", true)", x.insert(i, true), FULL);
            Check.due("full: insert(" + i + ", false)", x.insert(i, false), FULL);
        }
        Lines.holds("full: refused inserts", x, Lines.fullText());
        x.drop(299);
        Check.due("299 bits: insert(0)", x.insert(0, true), 300);
        Check.due("300 bits: insert(0)", x.insert(0, true), FULL);
    }

    private static void insertOutsideWithoutRoom() {
        DeepSpaceLink x = Lines.full();
        int[] outside = {-1, -300, 301, 302, Integer.MIN_VALUE, Integer.MAX_VALUE};
        for (int i : outside) {
            Check.due("full: insert(" + i + ")", x.insert(i, true), BAD);
        }
        Check.due("full: insert(300)", x.insert(300, true), FULL);
        Check.due("full: insert(0)", x.insert(0, true), FULL);
        Lines.holds("full: refused inserts", x, Lines.fullText());
    }

    private static void insertAnswers() {
        DeepSpaceLink first = new DeepSpaceLink();
        DeepSpaceLink last = new DeepSpaceLink();
        for (int n = 1; n <= 300; n++) {
            Check.due("insert(0)", first.insert(0, n % 2 == 0), n);
            Check.due("insert(" + (n - 1) + ")", last.insert(n - 1, n % 2 == 0), n);
        }
    }

    private static void clearLeavesNothing() {
        DeepSpaceLink x = Lines.full();
        x.clear();
        Lines.holds("cleared", x, "");
        Lines.taken("cleared", x);
        Check.due("cleared: good()", x.good(), 0);
        Check.due("cleared: message(0)", x.message(0), BAD);
        x.clear();
        Lines.holds("cleared again", x, "");
        for (int i = 0; i < 50; i++) {
            x.insert(i, false);
        }
        Lines.holds("what was there is not seen again", x, "0".repeat(50));
        x.clear();
        for (int n = 1; n <= 6; n++) {
            Check.due("send number " + n + " after clear", x.send(n), 50 * n);
        }
        Check.due("message(5) after clear", x.message(5), 6);
    }

    private static void clearAnswers() {
        DeepSpaceLink x = new DeepSpaceLink();
        Check.due("clear() of a new line", x.clear(), 0);
        x.insert(0, false);
        Check.due("clear() of one bit", x.clear(), 1);
        Check.due("clear() of none", x.clear(), 0);
        DeepSpaceLink full = Lines.full();
        Check.due("clear() of a full line", full.clear(), 300);
        Check.due("clear() of none", full.clear(), 0);
    }

    private static void bitsFromNoneToAll() {
        DeepSpaceLink x = new DeepSpaceLink();
        Check.due("bits() of none", x.bits(), 0);
        x.drop(0);
        x.insert(1, true);
        x.send(-1);
        x.flip(0);
        Check.due("bits() after refused calls", x.bits(), 0);
        for (int n = 1; n <= 150; n++) {
            x.insert(0, true);
            Check.due("bits() of " + n, x.bits(), n);
        }
        DeepSpaceLink full = Lines.full();
        Check.due("bits() of all", full.bits(), 300);
        full.insert(0, true);
        full.send(1);
        Check.due("bits() after FULL", full.bits(), 300);
        full.drop(0);
        Check.due("bits() of all but one", full.bits(), 299);
    }

    private static void bitFirstAndLast() {
        Lines.holds("one bit", Lines.of("1"), "1");
        Lines.holds("another bit", Lines.of("0"), "0");
        Lines.holds("two bits", Lines.of("01"), "01");
        DeepSpaceLink full = Lines.full();
        Check.due("full: bit(0)", full.bit(0), 1);
        Check.due("full: bit(298)", full.bit(298), 0);
        Check.due("full: bit(299)", full.bit(299), 1);
    }

    private static void bitThatIsNot() {
        DeepSpaceLink x = Lines.of("111");
        DeepSpaceLink full = Lines.full();
        for (int i : Lines.NEVER) {
            Check.due("bit(" + i + ")", x.bit(i), BAD);
            Check.due("full: bit(" + i + ")", full.bit(i), BAD);
            Check.due("empty: bit(" + i + ")", new DeepSpaceLink().bit(i), BAD);
        }
        Check.due("bit(3)", x.bit(3), BAD);
        Check.due("empty: bit(0)", new DeepSpaceLink().bit(0), BAD);
        x.drop(0);
        Check.due("bit(2) when it is gone", x.bit(2), BAD);
        full.clear();
        Check.due("bit(0) after clear", full.bit(0), BAD);
    }
}
