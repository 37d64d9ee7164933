/**
 * The terms sight, fits and received, and promises 9 and 10: each sentence that names a boundary
 * case, with a test of its own.
 */
public final class ReceiveEdgesTest {
    private static final int BAD = DeepSpaceLink.BAD;

    public static void main(String[] args) {
        Check.sentence("Terms: a sight has bits p to p + 7", ReceiveEdgesTest::noSightAtTheEnd);
        Check.sentence("Terms: at most one place, hunting", ReceiveEdgesTest::sightsHunting);
        Check.sentence("Terms: at most one place, not hunting", ReceiveEdgesTest::sightsInStep);
        Check.sentence("Terms: fits iff there are bits p to p + 49", ReceiveEdgesTest::fits);
        huntingSentences();
        inStepSentences();
        Check.sentence("Promise 9: from no frame to six", ReceiveEdgesTest::framesFromNoneToMost);
        Check.sentence("Promise 9: when the line is received", ReceiveEdgesTest::framesAnew);
        Check.sentence("Promise 10: frame k, from 0", ReceiveEdgesTest::placeFirstAndLast);
        Check.sentence("Promise 10: BAD if there is none", ReceiveEdgesTest::placeOfNone);
        Check.end();
    }

    private static void huntingSentences() {
        Check.sentence("(1) beginning at place 0, hunting", ReceiveEdgesTest::beginsAtPlace0);
        Check.sentence("(1) the smallest place that is a sight", ReceiveEdgesTest::smallestSight);
        Check.sentence("(1) if there is none, that is the end", ReceiveEdgesTest::noSightToFind);
        Check.sentence("(1) or no frame fits there", ReceiveEdgesTest::foundWithoutRoom);
        Check.sentence("(1) then 50 behind it", ReceiveEdgesTest::fiftyBehindTheFound);
        Check.sentence("(1) then not hunting, with no miss", ReceiveEdgesTest::noMissAfterAHunt);
    }

    private static void inStepSentences() {
        Check.sentence("(2) if no frame fits, the end", ReceiveEdgesTest::nextWithoutRoom);
        Check.sentence("(2) a sight: there is no miss", ReceiveEdgesTest::sightEndsTheMiss);
        Check.sentence("(2) no sight and no miss: taken", ReceiveEdgesTest::firstMissIsTaken);
        Check.sentence("(2) and there is a miss", ReceiveEdgesTest::secondMissIsNotTaken);
        Check.sentence("(2) in both cases 50 further on", ReceiveEdgesTest::fiftyFurtherOn);
        Check.sentence("(2) hunting from the present place", ReceiveEdgesTest::huntAfterTwoMisses);
    }

    /** Turns over the marker's first two bits, so that the place is no sight any more. */
    private static void hide(DeepSpaceLink x, int place) {
        x.flip(place);
        x.flip(place + 1);
    }

    private static void noSightAtTheEnd() {
        for (int length = 0; length <= 8; length++) {
            Lines.taken(length + " bits", Lines.of(Lines.MARKER.substring(0, length)));
        }
        // Behind the end lie bits that were there once; with them there would be a whole frame.
        for (int left = 49; left >= 0; left--) {
            DeepSpaceLink x = Lines.sent(0);
            for (int at = 49; at >= left; at--) {
                x.drop(at);
            }
            Lines.taken("cut down to " + left, x);
        }
        DeepSpaceLink y = Lines.sent(0, 0);
        for (int at = 99; at >= 57; at--) {
            y.drop(at);
        }
        Lines.taken("all but one of the second marker's bits", y, 0);
    }

    private static void sightsHunting() {
        int[] places = {0, 1, 77, 250};
        for (int place : places) {
            for (int first = 0; first < 8; first++) {
                DeepSpaceLink one = Lines.marked(place + 50, place);
                one.flip(place + first);
                Lines.taken("one wrong, at " + place, one, place);
                for (int second = 0; second < first; second++) {
                    one.flip(place + second);
                    Check.due("two wrong, at " + place, one.frames(), 0);
                    one.flip(place + second);
                }
            }
            Lines.taken("none wrong, at " + place, Lines.marked(place + 50, place), place);
        }
        DeepSpaceLink none = Lines.marked(50, 0);
        for (int i = 0; i < 8; i++) {
            none.flip(i);
        }
        Lines.taken("all wrong", none);
    }

    private static void sightsInStep() {
        // The second place is missed, so the third is taken just if it is a sight.
        for (int first = 0; first < 8; first++) {
            DeepSpaceLink x = Lines.marked(150, 0, 100);
            x.flip(100 + first);
            Lines.taken("one wrong, in step", x, 0, 50, 100);
            for (int second = 0; second < first; second++) {
                x.flip(100 + second);
                Check.due("two wrong, in step", x.frames(), 2);
                x.flip(100 + second);
            }
        }
        Lines.taken("none wrong, in step", Lines.marked(150, 0, 100), 0, 50, 100);
    }

    private static void fits() {
        Lines.taken("49 bits", Lines.marked(49, 0));
        Lines.taken("50 bits", Lines.marked(50, 0), 0);
        Lines.taken("50 of 51 bits, first", Lines.marked(51, 0), 0);
        Lines.taken("50 of 51 bits, last", Lines.marked(51, 1), 1);
        Lines.taken("49 of 51 bits, last", Lines.marked(51, 2));
        Lines.taken("the last 50 of 300", Lines.marked(300, 250), 250);
        Lines.taken("the last 49 of 300", Lines.marked(300, 251));
        Lines.taken("the last 8 of 300", Lines.marked(300, 292));
        DeepSpaceLink x = Lines.sent(0);
        x.drop(49);
        Lines.taken("a frame's last bit gone", x);
        x.insert(49, true);
        Lines.taken("and there again", x, 0);
    }

    private static void beginsAtPlace0() {
        Lines.taken("a sight at place 0", Lines.marked(60, 0), 0);
        Lines.taken("a sight at place 1", Lines.marked(60, 1), 1);
        // Hunting, a place that is no sight is not taken, though a frame fits.
        DeepSpaceLink x = Lines.marked(100, 0, 50);
        hide(x, 0);
        Lines.taken("no sight at place 0", x, 50);
        DeepSpaceLink y = Lines.marked(120, 50, 70);
        hide(y, 50);
        Lines.taken("no sight at places 0 and 50", y, 70);
    }

    private static void smallestSight() {
        // Sights at places 0 and 3, which lie across one another, with one wrong bit at most.
        String across = "10110010010";
        Lines.taken("two across", Lines.of(across + "0".repeat(49)), 0);
        Lines.taken("the second of them", Lines.of(across.substring(1) + "0".repeat(48)), 2);
        Lines.taken("two apart", Lines.marked(130, 20, 80), 20, 70);
        Lines.taken("two in a row", Lines.marked(69, 11, 19), 11);
        for (int place = 0; place <= 250; place++) {
            Lines.taken("at " + place, Lines.marked(place + 50, place), place);
        }
        // A wrong bit makes a sight no worse: the earlier one is still the smaller.
        DeepSpaceLink x = Lines.marked(75, 5, 25);
        x.flip(12);
        Lines.taken("a spoilt one before a whole one", x, 5);
    }

    private static void noSightToFind() {
        Lines.taken("no bits", new DeepSpaceLink());
        Lines.taken("zeros, full", Lines.marked(300));
        Lines.taken("ones, full", Lines.of("1".repeat(300)));
        Lines.taken("zeros, as long as a frame", Lines.marked(50));
        Lines.taken("none after the second miss", Lines.marked(300, 0), 0, 50);
        Lines.taken("none after a later second miss", Lines.marked(300, 0, 50), 0, 50, 100);
    }

    private static void foundWithoutRoom() {
        Lines.taken("49 bits are left", Lines.marked(79, 30));
        Lines.taken("50 bits are left", Lines.marked(80, 30), 30);
        Lines.taken("8 bits are left", Lines.marked(38, 30));
        Lines.taken("after two misses, 49", Lines.marked(199, 0, 150), 0, 50);
        Lines.taken("after two misses, 50", Lines.marked(200, 0, 150), 0, 50, 150);
        Lines.taken("after two misses, 49 of 300", Lines.marked(300, 0, 251), 0, 50);
        Lines.taken("after two misses, 50 of 300", Lines.marked(300, 0, 250), 0, 50, 250);
    }

    private static void fiftyBehindTheFound() {
        // The next place is a miss, the one behind it not: they show where one is.
        Lines.taken("no gap", Lines.marked(157, 7, 107), 7, 57, 107);
        Lines.taken("a gap of one", Lines.marked(158, 7, 108), 7, 57, 108);
        Lines.taken("one too early", Lines.marked(156, 7, 56), 7, 57);
        Lines.taken("inside the frame", Lines.marked(107, 7, 15, 49), 7, 57);
    }

    private static void noMissAfterAHunt() {
        Lines.taken("the first hunt", Lines.marked(103, 3), 3, 53);
        Lines.taken("a hunt after two misses", Lines.marked(220, 0, 120), 0, 50, 120, 170);
        Lines.taken("and again", Lines.marked(300, 0, 101, 202), 0, 50, 101, 151, 202);
        Lines.taken("a hunt over no place", Lines.marked(201, 0, 101), 0, 50, 101, 151);
    }

    private static void nextWithoutRoom() {
        Lines.taken("after a sight, a sight, 49", Lines.marked(99, 0, 50), 0);
        Lines.taken("after a sight, a sight, 50", Lines.marked(100, 0, 50), 0, 50);
        Lines.taken("after a sight, none, 49", Lines.marked(99, 0), 0);
        Lines.taken("after a sight, none, 50", Lines.marked(100, 0), 0, 50);
        Lines.taken("after a miss, a sight, 49", Lines.marked(149, 0, 100), 0, 50);
        Lines.taken("after a miss, a sight, 50", Lines.marked(150, 0, 100), 0, 50, 100);
        Lines.taken("after a miss, none, 49", Lines.marked(149, 0), 0, 50);
        Lines.taken("no bit left", Lines.marked(50, 0), 0);
        Lines.taken("the sixth, 49", Lines.marked(299, 0, 100, 200), 0, 50, 100, 150, 200);
        Lines.taken("the sixth, 50", Lines.marked(300, 0, 100, 200), 0, 50, 100, 150, 200, 250);
    }

    private static void sightEndsTheMiss() {
        Lines.taken("a miss, a sight, a miss", Lines.marked(200, 0, 100), 0, 50, 100, 150);
        Lines.taken("then two misses", Lines.marked(300, 0, 100), 0, 50, 100, 150);
        Lines.taken("two sights, a miss", Lines.marked(150, 0, 50), 0, 50, 100);
        DeepSpaceLink x = Lines.marked(200, 0, 100);
        x.flip(107);
        Lines.taken("a sight with a wrong bit", x, 0, 50, 100, 150);
    }

    private static void firstMissIsTaken() {
        Lines.taken("after the first frame", Lines.marked(100, 0), 0, 50);
        Lines.taken("after the fifth frame", Lines.marked(300, 0, 50, 100, 150, 200),
                0, 50, 100, 150, 200, 250);
        DeepSpaceLink x = Lines.sent(1, 2);
        hide(x, 50);
        Lines.taken("two bits of the marker", x, 0, 50);
        Check.due("its message", x.message(1), 2);
        for (int i = 52; i < 58; i++) {
            x.flip(i);
        }
        Lines.taken("all bits of the marker", x, 0, 50);
        Check.due("its message", x.message(1), 2);
    }

    private static void secondMissIsNotTaken() {
        Lines.taken("two misses", Lines.marked(150, 0), 0, 50);
        Lines.taken("two misses, later", Lines.marked(300, 0, 50, 100, 150), 0, 50, 100, 150, 200);
        DeepSpaceLink x = Lines.sent(0, 0, 0);
        hide(x, 100);
        Lines.taken("no sight after a sight", x, 0, 50, 100);
        hide(x, 50);
        Lines.taken("no sight after a miss", x, 0, 50);
        x.flip(100);
        Lines.taken("a sight after a miss", x, 0, 50, 100);
    }

    private static void fiftyFurtherOn() {
        // A sight on the way is passed over, whether the frame was seen or missed.
        Lines.taken("inside a seen frame", Lines.marked(150, 0, 50, 70, 100), 0, 50, 100);
        Lines.taken("one before the next", Lines.marked(150, 0, 50, 92), 0, 50, 100);
        Lines.taken("inside a missed frame", Lines.marked(150, 0, 70), 0, 50);
        Lines.taken("inside a missed frame, with room", Lines.marked(150, 0, 51, 100), 0, 50, 100);
        Lines.taken("across the end of a missed frame", Lines.marked(160, 0, 95), 0, 50);
    }

    private static void huntAfterTwoMisses() {
        for (int place = 101; place <= 200; place++) {
            DeepSpaceLink x = Lines.marked(place + 50, 0, place);
            Check.due("frames(), found at " + place, x.frames(), 3);
            Check.due("place(2), found at " + place, x.place(2), place);
        }
        // What lies before the present place is not looked at again.
        Lines.taken("a sight one place before", Lines.marked(300, 0, 92), 0, 50);
        Lines.taken("across the present place", Lines.marked(300, 0, 99), 0, 50);
        DeepSpaceLink x = Lines.sent(1, 2, 3, 4);
        hide(x, 50);
        hide(x, 100);
        x.insert(150, false);
        Lines.taken("a frame moved by one", x, 0, 50, 151);
        Check.due("its message", x.message(2), 4);
    }

    private static void framesFromNoneToMost() {
        DeepSpaceLink x = new DeepSpaceLink();
        Check.due("frames() of none", x.frames(), 0);
        for (int n = 1; n <= 6; n++) {
            x.send(262143);
            Check.due("frames() of " + n, x.frames(), n);
        }
        x.send(262143);
        Check.due("frames() after FULL", x.frames(), 6);
        x.drop(299);
        Check.due("frames() with 299 bits", x.frames(), 5);
        DeepSpaceLink full = Lines.marked(300, 0, 50, 100, 150, 200, 250);
        Check.due("frames(), no frame whole", full.frames(), 6);
    }

    private static void framesAnew() {
        DeepSpaceLink x = Lines.sent(5);
        Check.due("frames() after send", x.frames(), 1);
        Check.due("frames() asked again", x.frames(), 1);
        hide(x, 0);
        Check.due("frames() after flips", x.frames(), 0);
        hide(x, 0);
        Check.due("frames() after flips back", x.frames(), 1);
        x.drop(49);
        Check.due("frames() after drop", x.frames(), 0);
        x.insert(0, true);
        Check.due("frames() after insert", x.frames(), 0);
        x.insert(50, true);
        Check.due("frames() after a second insert", x.frames(), 1);
        x.clear();
        Check.due("frames() after clear", x.frames(), 0);
    }

    private static void placeFirstAndLast() {
        DeepSpaceLink x = Lines.full();
        for (int k = 0; k < 6; k++) {
            Check.due("place(" + k + ")", x.place(k), 50 * k);
        }
        for (int k = 5; k >= 0; k--) {
            Check.due("place(" + k + ") again", x.place(k), 50 * k);
        }
        Check.due("the greatest place", Lines.marked(300, 250).place(0), 250);
        Check.due("the smallest place", Lines.marked(300, 0).place(0), 0);
    }

    private static void placeOfNone() {
        DeepSpaceLink none = new DeepSpaceLink();
        DeepSpaceLink one = Lines.sent(0);
        DeepSpaceLink six = Lines.full();
        for (int k : Lines.NEVER) {
            Check.due("place(" + k + ") of none", none.place(k), BAD);
            Check.due("place(" + k + ") of one", one.place(k), BAD);
            Check.due("place(" + k + ") of six", six.place(k), BAD);
        }
        Check.due("place(0) of none", none.place(0), BAD);
        Check.due("place(1) of one", one.place(1), BAD);
        Check.due("place(6) of six", six.place(6), BAD);
        Check.due("place(7) of six", six.place(7), BAD);
        Check.due("place(5) of six", six.place(5), 250);
        six.drop(299);
        Check.due("place(5) of five", six.place(5), BAD);
        six.clear();
        Check.due("place(0) after clear", six.place(0), BAD);
    }
}
