/** Promises 1 to 8: the line and what changes it. */
public final class LineTest {
    public static void main(String[] args) {
        newObjectIsEmpty();
        sendWritesTheFrame();
        sendLooksAtTheMessageBeforeTheRoom();
        sendNeedsRoomForAWholeFrame();
        flipTurnsOneBit();
        dropMovesLaterBitsDown();
        insertMovesLaterBitsUp();
        insertLooksAtThePlaceBeforeTheRoom();
        clearEmptiesTheLine();
        bitsAndBitLeaveTheLineAlone();
        objectsHaveTheirOwnLines();
        Check.end();
    }

    private static void newObjectIsEmpty() {
        DeepSpaceLink x = new DeepSpaceLink();
        Check.due("new: bits()", x.bits(), 0);
        Check.due("new: bit(0)", x.bit(0), DeepSpaceLink.BAD);
        Check.due("new: frames()", x.frames(), 0);
        Check.due("new: good()", x.good(), 0);
        Check.due("new: clear()", x.clear(), 0);
    }

    private static void sendWritesTheFrame() {
        // All symbols of message 0 are 0, so the line shows the changes by j alone.
        sends(0, "10110010", "51771533517715");
        // x^4 + 3 x^3 + x^2 + 2 x + 3 is the code word with 1, 0, 0 as symbols 4, 5, 6.
        sends(0100000, "10110010", "61570503417715");
        // The same word, as the second of the two: m1 is the first of its symbols.
        sends(0010000, "10110010", "52751430507715");
        // All seven symbols alike are a code word: the powers of 2 add up to 0.
        sends(0777777, "10110010", "26006244260062");
        sends(0070707, "10110010", "56701234567012");
    }

    private static void sends(int message, String marker, String symbols) {
        DeepSpaceLink x = new DeepSpaceLink();
        String call = "send(" + message + ")";
        Check.due(call, x.send(message), 50);
        Lines.holds(call, x, marker + Lines.inBits(symbols));
        // A second frame is put behind what is there, whatever that is.
        x.clear();
        x.insert(0, true);
        x.insert(1, false);
        Check.due(call + " behind 10", x.send(message), 52);
        Lines.holds(call + " behind 10", x, "10" + marker + Lines.inBits(symbols));
    }

    private static void sendLooksAtTheMessageBeforeTheRoom() {
        DeepSpaceLink x = new DeepSpaceLink();
        int[] outside = {-1, 262144, Integer.MIN_VALUE, Integer.MAX_VALUE};
        for (int message : outside) {
            Check.due("send(" + message + ")", x.send(message), DeepSpaceLink.BAD);
            Check.due("bits() after a bad send", x.bits(), 0);
        }
        x = Lines.full();
        for (int message : outside) {
            Check.due("full: send(" + message + ")", x.send(message), DeepSpaceLink.BAD);
        }
        Check.due("full: send(0)", x.send(0), DeepSpaceLink.FULL);
        Check.due("full: send(262143)", x.send(262143), DeepSpaceLink.FULL);
        Check.due("full: bits()", x.bits(), 300);
    }

    private static void sendNeedsRoomForAWholeFrame() {
        DeepSpaceLink x = Lines.full();
        for (int left = 299; left > 250; left--) {
            x.drop(left);
            Check.due("send(5) with " + left, x.send(5), DeepSpaceLink.FULL);
            Check.due("bits()", x.bits(), left);
        }
        x.drop(0);
        Check.due("send(5) with 250", x.send(5), 300);
    }

    private static void flipTurnsOneBit() {
        DeepSpaceLink x = Lines.of("0110");
        Check.due("flip(0)", x.flip(0), 1);
        Lines.holds("flip(0)", x, "1110");
        Check.due("flip(2)", x.flip(2), 0);
        Lines.holds("flip(2)", x, "1100");
        Check.due("flip(3)", x.flip(3), 1);
        Check.due("flip(3)", x.flip(3), 0);
        Lines.holds("flip(3) twice", x, "1100");
        int[] outside = {-1, 4, 5, 300, Integer.MIN_VALUE, Integer.MAX_VALUE};
        for (int i : outside) {
            Check.due("flip(" + i + ")", x.flip(i), DeepSpaceLink.BAD);
        }
        Lines.holds("bad flips", x, "1100");
        x = Lines.full();
        int before = x.bit(299);
        Check.due("full: flip(299)", x.flip(299), 1 - before);
        Check.due("full: flip(300)", x.flip(300), DeepSpaceLink.BAD);
    }

    private static void dropMovesLaterBitsDown() {
        DeepSpaceLink x = Lines.of("110101");
        Check.due("drop(3)", x.drop(3), 5);
        Lines.holds("drop(3)", x, "11001");
        Check.due("drop(0)", x.drop(0), 4);
        Lines.holds("drop(0)", x, "1001");
        Check.due("drop(3)", x.drop(3), 3);
        Lines.holds("drop(3), the last", x, "100");
        int[] outside = {-1, 3, 4, 300, Integer.MIN_VALUE, Integer.MAX_VALUE};
        for (int i : outside) {
            Check.due("drop(" + i + ")", x.drop(i), DeepSpaceLink.BAD);
        }
        Lines.holds("bad drops", x, "100");
        x.drop(0);
        x.drop(0);
        Check.due("drop(0), the only one", x.drop(0), 0);
        Check.due("drop(0) of none", x.drop(0), DeepSpaceLink.BAD);
        x = Lines.full();
        Check.due("full: drop(300)", x.drop(300), DeepSpaceLink.BAD);
        Check.due("full: drop(299)", x.drop(299), 299);
        Check.due("full: drop(0)", x.drop(0), 298);
    }

    private static void insertMovesLaterBitsUp() {
        DeepSpaceLink x = Lines.of("0110");
        Check.due("insert(0, true)", x.insert(0, true), 5);
        Lines.holds("insert(0, true)", x, "10110");
        Check.due("insert(2, false)", x.insert(2, false), 6);
        Lines.holds("insert(2, false)", x, "100110");
        Check.due("insert(6, true)", x.insert(6, true), 7);
        Lines.holds("insert(6, true)", x, "1001101");
        Check.due("insert(7, false)", x.insert(7, false), 8);
        Lines.holds("insert(7, false)", x, "10011010");
        int[] outside = {-1, 9, 10, 300, 301, Integer.MIN_VALUE, Integer.MAX_VALUE};
        for (int i : outside) {
            Check.due("insert(" + i + ", true)", x.insert(i, true), DeepSpaceLink.BAD);
        }
        Lines.holds("bad inserts", x, "10011010");
        // What was left behind by a drop or a clear is not seen again.
        x.clear();
        x.insert(0, false);
        x.insert(1, false);
        Lines.holds("inserts after clear", x, "00");
    }

    private static void insertLooksAtThePlaceBeforeTheRoom() {
        DeepSpaceLink x = Lines.full();
        Check.due("full: insert(301)", x.insert(301, true), DeepSpaceLink.BAD);
        Check.due("full: insert(-1)", x.insert(-1, true), DeepSpaceLink.BAD);
        Check.due("full: insert(300)", x.insert(300, true), DeepSpaceLink.FULL);
        Check.due("full: insert(299)", x.insert(299, false), DeepSpaceLink.FULL);
        Check.due("full: insert(0)", x.insert(0, true), DeepSpaceLink.FULL);
        Check.due("full: bits()", x.bits(), 300);
        x.drop(299);
        Check.due("insert(300) with 299", x.insert(300, true), DeepSpaceLink.BAD);
        Check.due("insert(299) with 299", x.insert(299, true), 300);
        Check.due("bit(299)", x.bit(299), 1);
        x.drop(0);
        Check.due("insert(0) with 299", x.insert(0, true), 300);
        Check.due("bit(299) moved up", x.bit(299), 1);
    }

    private static void clearEmptiesTheLine() {
        DeepSpaceLink x = Lines.full();
        Check.due("clear() of a full line", x.clear(), 300);
        Check.due("bits() after clear", x.bits(), 0);
        Check.due("bit(0) after clear", x.bit(0), DeepSpaceLink.BAD);
        Check.due("frames() after clear", x.frames(), 0);
        Check.due("place(0) after clear", x.place(0), DeepSpaceLink.BAD);
        Check.due("clear() again", x.clear(), 0);
        Check.due("send(9) after clear", x.send(9), 50);
        Check.due("message(0) after clear", x.message(0), 9);
        x.drop(0);
        Check.due("clear() of 49", x.clear(), 49);
    }

    private static void bitsAndBitLeaveTheLineAlone() {
        DeepSpaceLink x = Lines.of("101");
        int[] outside = {-1, 3, 4, 299, 300, 301, Integer.MIN_VALUE, Integer.MAX_VALUE};
        for (int i : outside) {
            Check.due("bit(" + i + ")", x.bit(i), DeepSpaceLink.BAD);
        }
        Lines.holds("twice", x, "101");
        Lines.holds("twice", x, "101");
        x = Lines.full();
        Check.due("full: bits()", x.bits(), 300);
        Check.due("full: bit(300)", x.bit(300), DeepSpaceLink.BAD);
        Check.due("full: bit(250)", x.bit(250), 1);
    }

    private static void objectsHaveTheirOwnLines() {
        DeepSpaceLink x = Lines.of("11");
        DeepSpaceLink y = Lines.of("000");
        Lines.holds("the first of two", x, "11");
        Lines.holds("the second of two", y, "000");
    }
}
