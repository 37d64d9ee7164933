/**
 * Promises 9 and 10: which frames are taken, and where. The lines are zeros with markers set into
 * them; no other place of such a line is a sight, since the marker moved along over zeros differs
 * from the marker in two places or more.
 */
public final class ReceiveTest {
    private static final String MARKER = "10110010";

    public static void main(String[] args) {
        aFrameMustFit();
        oneWrongMarkerBitIsStillASight();
        twoWrongMarkerBitsAreNoSight();
        huntingTakesTheFirstSight();
        inStepOnlyEveryFiftiethPlaceIsLookedAt();
        oneMissIsForgiven();
        aSecondMissBeginsAHunt();
        aSightForgetsTheMiss();
        theFirstFrameIsNotForgiven();
        missedFramesMustFitToo();
        wrongFrameNumbersAreBad();
        receivingFollowsTheLine();
        Check.end();
    }

    private static void taken(String when, DeepSpaceLink x, int... places) {
        Check.due(when + ": frames()", x.frames(), places.length);
        for (int k = 0; k < places.length; k++) {
            Check.due(when + ": place(" + k + ")", x.place(k), places[k]);
        }
        Check.due(when + ": place past the last", x.place(places.length), DeepSpaceLink.BAD);
        Check.due(when + ": place(-1)", x.place(-1), DeepSpaceLink.BAD);
    }

    private static DeepSpaceLink line(int length, int... markers) {
        StringBuilder bits = new StringBuilder("0".repeat(length));
        for (int place : markers) {
            bits.replace(place, place + MARKER.length(), MARKER);
        }
        DeepSpaceLink x = new DeepSpaceLink();
        for (int i = 0; i < length; i++) {
            x.insert(i, bits.charAt(i) == '1');
        }
        Check.due("bits()", x.bits(), length);
        return x;
    }

    private static void aFrameMustFit() {
        taken("empty", new DeepSpaceLink());
        taken("a marker alone", line(8, 0));
        taken("49 bits", line(49, 0));
        taken("50 bits", line(50, 0), 0);
        taken("51 bits", line(51, 0), 0);
        taken("moved by one, 50 bits", line(50, 1));
        taken("moved by one, 51 bits", line(51, 1), 1);
        taken("99 bits", line(99, 0, 50), 0);
        taken("100 bits", line(100, 0, 50), 0, 50);
        taken("299 bits", line(299, 0, 50, 100, 150, 200, 250), 0, 50, 100, 150, 200);
        taken("300 bits", line(300, 0, 50, 100, 150, 200, 250), 0, 50, 100, 150, 200, 250);
        taken("the last place of a full line", line(300, 250), 250);
        taken("one too far on a full line", line(300, 251));
        taken("zeros alone", line(300));
    }

    private static void oneWrongMarkerBitIsStillASight() {
        for (int i = 0; i < 8; i++) {
            DeepSpaceLink x = line(55, 5);
            x.flip(5 + i);
            taken("marker bit " + i + " wrong", x, 5);
        }
    }

    private static void twoWrongMarkerBitsAreNoSight() {
        for (int i = 0; i < 8; i++) {
            for (int j = 0; j < i; j++) {
                DeepSpaceLink x = line(50, 0);
                x.flip(i);
                x.flip(j);
                taken("marker bits " + j + " and " + i + " wrong", x);
            }
        }
    }

    private static void huntingTakesTheFirstSight() {
        taken("two sights", line(119, 20, 40), 20);
        taken("two sights, room for both", line(150, 20, 90), 20, 70);
        for (int place = 0; place <= 250; place++) {
            DeepSpaceLink x = line(place + 50, place);
            Check.due("frames()", x.frames(), 1);
            Check.due("place(0)", x.place(0), place);
        }
    }

    private static void inStepOnlyEveryFiftiethPlaceIsLookedAt() {
        taken("a marker inside a frame", line(100, 0, 8), 0, 50);
        taken("a marker across the end", line(150, 0, 42, 51, 100), 0, 50, 100);
    }

    private static void oneMissIsForgiven() {
        taken("a miss at the end", line(100, 0), 0, 50);
        taken("a miss between", line(150, 0, 100), 0, 50, 100);
        // The missed frame goes by whole: a sight inside it does not count.
        taken("a sight in a missed frame", line(210, 0, 60), 0, 50);
    }

    private static void aSecondMissBeginsAHunt() {
        taken("two misses", line(150, 0), 0, 50);
        taken("many misses", line(300, 0), 0, 50);
        taken("hunting finds the next place", line(151, 0, 101), 0, 50, 101);
        taken("hunting finds a far place", line(237, 0, 187), 0, 50, 187);
        taken("found, but it does not fit", line(236, 0, 187), 0, 50);
        taken("in step again after the hunt", line(300, 0, 130), 0, 50, 130, 180);
        taken("the hunt ends with no miss", line(300, 0, 101, 201), 0, 50, 101, 151, 201);
    }

    private static void aSightForgetsTheMiss() {
        taken("every second one", line(300, 0, 100, 200), 0, 50, 100, 150, 200, 250);
        taken("two sights, then two misses", line(250, 0, 50), 0, 50, 100);
        DeepSpaceLink x = line(200, 0, 100);
        x.flip(100);
        taken("a spoilt sight forgets it too", x, 0, 50, 100, 150);
        x.flip(101);
        taken("no sight does not", x, 0, 50);
    }

    private static void theFirstFrameIsNotForgiven() {
        DeepSpaceLink x = line(100, 0, 50);
        x.flip(0);
        x.flip(1);
        taken("the first marker is gone", x, 50);
    }

    private static void missedFramesMustFitToo() {
        taken("a miss with 49 bits", line(99, 0), 0);
        taken("a sight with 49 bits", line(99, 0, 50), 0);
    }

    private static void wrongFrameNumbersAreBad() {
        DeepSpaceLink x = line(300, 0, 50, 100, 150, 200, 250);
        int[] outside = {-1, 6, 7, 300, Integer.MIN_VALUE, Integer.MAX_VALUE};
        for (int k : outside) {
            Check.due("place(" + k + ")", x.place(k), DeepSpaceLink.BAD);
        }
    }

    private static void receivingFollowsTheLine() {
        DeepSpaceLink x = line(100, 0, 50);
        taken("as it was", x, 0, 50);
        x.insert(0, false);
        Check.due("place(0) after insert", x.place(0), 1);
        x.drop(0);
        Check.due("place(0) after drop", x.place(0), 0);
        x.drop(99);
        Check.due("place(1) after drop", x.place(1), DeepSpaceLink.BAD);
        x.insert(99, true);
        Check.due("place(1) after insert", x.place(1), 50);
        x.flip(0);
        x.flip(7);
        Check.due("place(0) after flips", x.place(0), 50);
        x.send(1);
        Check.due("place(1) after send", x.place(1), 100);
        x.clear();
        Check.due("place(0) after clear", x.place(0), DeepSpaceLink.BAD);
    }
}
