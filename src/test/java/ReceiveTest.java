/** Promises 9 and 10: which frames are taken, and where. */
public final class ReceiveTest {
    public static void main(String[] args) {
        aFrameMustFit();
        oneWrongMarkerBitIsStillASight();
        twoWrongMarkerBitsAreNoSight();
        huntingTakesTheFirstSight();
        inStepOnlyEveryFiftiethPlaceIsLookedAt();
        oneMissIsForgiven();
        aSecondMissBeginsAHunt();
        aSightForgetsTheMiss();
        theFirstFrameIsNotForgiven();
        missedFramesMustFitToo();
        wrongFrameNumbersAreBad();
        receivingFollowsTheLine();
        Check.end();
    }

    private static void aFrameMustFit() {
        Lines.taken("empty", new DeepSpaceLink());
        Lines.taken("a marker alone", Lines.marked(8, 0));
        Lines.taken("49 bits", Lines.marked(49, 0));
        Lines.taken("50 bits", Lines.marked(50, 0), 0);
        Lines.taken("51 bits", Lines.marked(51, 0), 0);
        Lines.taken("moved by one, 50 bits", Lines.marked(50, 1));
        Lines.taken("moved by one, 51 bits", Lines.marked(51, 1), 1);
        Lines.taken("99 bits", Lines.marked(99, 0, 50), 0);
        Lines.taken("100 bits", Lines.marked(100, 0, 50), 0, 50);
        Lines.taken("299 bits", Lines.marked(299, 0, 50, 100, 150, 200, 250), 0, 50, 100, 150, 200);
        DeepSpaceLink six = Lines.marked(300, 0, 50, 100, 150, 200, 250);
        Lines.taken("300 bits", six, 0, 50, 100, 150, 200, 250);
        Lines.taken("the last place of a full line", Lines.marked(300, 250), 250);
        Lines.taken("one too far on a full line", Lines.marked(300, 251));
        Lines.taken("zeros alone", Lines.marked(300));
    }

    private static void oneWrongMarkerBitIsStillASight() {
        for (int i = 0; i < 8; i++) {
            DeepSpaceLink x = Lines.marked(55, 5);
            x.flip(5 + i);
            Lines.taken("marker bit " + i + " wrong", x, 5);
        }
    }

    private static void twoWrongMarkerBitsAreNoSight() {
        for (int i = 0; i < 8; i++) {
            for (int j = 0; j < i; j++) {
                DeepSpaceLink x = Lines.marked(50, 0);
                x.flip(i);
                x.flip(j);
                Lines.taken("marker bits " + j + " and " + i + " wrong", x);
            }
        }
    }

    private static void huntingTakesTheFirstSight() {
        Lines.taken("two sights", Lines.marked(119, 20, 40), 20);
        Lines.taken("two sights, room for both", Lines.marked(150, 20, 90), 20, 70);
        for (int place = 0; place <= 250; place++) {
            DeepSpaceLink x = Lines.marked(place + 50, place);
            Check.due("frames()", x.frames(), 1);
            Check.due("place(0)", x.place(0), place);
        }
    }

    private static void inStepOnlyEveryFiftiethPlaceIsLookedAt() {
        Lines.taken("a marker inside a frame", Lines.marked(100, 0, 8), 0, 50);
        Lines.taken("a marker across the end", Lines.marked(150, 0, 42, 51, 100), 0, 50, 100);
    }

    private static void oneMissIsForgiven() {
        Lines.taken("a miss at the end", Lines.marked(100, 0), 0, 50);
        Lines.taken("a miss between", Lines.marked(150, 0, 100), 0, 50, 100);
        // The missed frame goes by whole: a sight inside it does not count.
        Lines.taken("a sight in a missed frame", Lines.marked(210, 0, 60), 0, 50);
    }

    private static void aSecondMissBeginsAHunt() {
        Lines.taken("two misses", Lines.marked(150, 0), 0, 50);
        Lines.taken("many misses", Lines.marked(300, 0), 0, 50);
        Lines.taken("hunting finds the next place", Lines.marked(151, 0, 101), 0, 50, 101);
        Lines.taken("hunting finds a far place", Lines.marked(237, 0, 187), 0, 50, 187);
        Lines.taken("found, but it does not fit", Lines.marked(236, 0, 187), 0, 50);
        Lines.taken("in step again after the hunt", Lines.marked(300, 0, 130), 0, 50, 130, 180);
        DeepSpaceLink hunted = Lines.marked(300, 0, 101, 201);
        Lines.taken("the hunt ends with no miss", hunted, 0, 50, 101, 151, 201);
    }

    private static void aSightForgetsTheMiss() {
        Lines.taken("every second one", Lines.marked(300, 0, 100, 200), 0, 50, 100, 150, 200, 250);
        Lines.taken("two sights, then two misses", Lines.marked(250, 0, 50), 0, 50, 100);
        DeepSpaceLink x = Lines.marked(200, 0, 100);
        x.flip(100);
        Lines.taken("a spoilt sight forgets it too", x, 0, 50, 100, 150);
        x.flip(101);
        Lines.taken("no sight does not", x, 0, 50);
    }

    private static void theFirstFrameIsNotForgiven() {
        DeepSpaceLink x = Lines.marked(100, 0, 50);
        x.flip(0);
        x.flip(1);
        Lines.taken("the first marker is gone", x, 50);
    }

    private static void missedFramesMustFitToo() {
        Lines.taken("a miss with 49 bits", Lines.marked(99, 0), 0);
        Lines.taken("a sight with 49 bits", Lines.marked(99, 0, 50), 0);
    }

    private static void wrongFrameNumbersAreBad() {
        DeepSpaceLink x = Lines.marked(300, 0, 50, 100, 150, 200, 250);
        int[] outside = {-1, 6, 7, 300, Integer.MIN_VALUE, Integer.MAX_VALUE};
        for (int k : outside) {
            Check.due("place(" + k + ")", x.place(k), DeepSpaceLink.BAD);
        }
    }

    private static void receivingFollowsTheLine() {
        DeepSpaceLink x = Lines.marked(100, 0, 50);
        Lines.taken("as it was", x, 0, 50);
        x.insert(0, false);
        Check.due("place(0) after insert", x.place(0), 1);
        x.drop(0);
        Check.due("place(0) after drop", x.place(0), 0);
        x.drop(99);
        Check.due("place(1) after drop", x.place(1), DeepSpaceLink.BAD);
        x.insert(99, true);
        Check.due("place(1) after insert", x.place(1), 50);
        x.flip(0);
        x.flip(7);
        Check.due("place(0) after flips", x.place(0), 50);
        x.send(1);
        Check.due("place(1) after send", x.place(1), 100);
        x.clear();
        Check.due("place(0) after clear", x.place(0), DeepSpaceLink.BAD);
    }
}
