import java.util.Map;
import java.util.TreeMap;

/** Promises 1 to 13 together: the same mixed runs on the class and on the model. */
public final class ModelTest {
    private static final int RUNS = 400;
    private static final int CALLS = 512;
    private static final int[] EDGES = {
        -1, 0, 1, 5, 6, 49, 50, 249, 250, 299, 300, 301, 262143, 262144,
        Integer.MIN_VALUE, Integer.MAX_VALUE
    };

    /** How often of a hundred a change is a send, a flip, a drop or an insert; else a clear. */
    private static final int[][] MIXTURES = {
        {25, 35, 20, 19},
        {45, 45, 2, 3},
        {30, 60, 4, 4},
    };

    /** Answers that the runs must have seen, so that they are known to come to the edges. */
    private static final String[] MUST_SEE = {
        "send BAD", "send FULL", "send 50", "send 300", "flip BAD", "flip 0", "flip 1",
        "drop BAD", "drop 0", "drop 299", "insert BAD", "insert FULL", "insert 1", "insert 300",
        "clear 0", "clear 300", "bits 0", "bits 300", "bit BAD", "bit 0", "bit 1",
        "frames 0", "frames 1", "frames 2", "frames 3", "frames 4", "frames 5", "frames 6",
        "place BAD", "place 0", "place 250", "message BAD", "message LOST", "message 262143",
        "mended BAD", "mended 0", "mended 1", "mended 2", "mended 3", "mended 4",
        "good 0", "good 1", "good 2", "good 3", "good 4", "good 5", "good 6"
    };

    private static final Map<String, Integer> SEEN = new TreeMap<>();

    // Its own generator, so that every run of the test is the same on every machine.
    private static long state = 20261115L;

    private static int below(int bound) {
        state = state * 6364136223846793005L + 1442695040888963407L;
        return (int) ((state >>> 33) % bound);
    }

    public static void main(String[] args) {
        for (int run = 0; run < RUNS; run++) {
            mixedRun(run);
        }
        for (String answer : MUST_SEE) {
            Check.due("the runs have seen " + answer, SEEN.containsKey(answer) ? 1 : 0, 1);
        }
        Check.end();
    }

    private static void mixedRun(int run) {
        DeepSpaceLink x = new DeepSpaceLink();
        LinkModel y = new LinkModel();
        int quiet = 1 + run % 6;
        int[] mixture = MIXTURES[run % MIXTURES.length];
        for (int n = 0; n < CALLS; n++) {
            String when = "run " + run + ", call " + n + ": ";
            if (below(quiet + 1) == 0) {
                change(when, mixture, x, y);
            } else {
                ask(when, x, y);
            }
        }
    }

    private static void due(String when, String name, String arguments, int got, int want) {
        Check.due(when + name + "(" + arguments + ")", got, want);
        String answer = switch (want) {
            case -1 -> "BAD";
            case -2 -> "FULL";
            case -3 -> "LOST";
            default -> "" + want;
        };
        SEEN.merge(name + " " + answer, 1, Integer::sum);
    }

    private static int message() {
        return below(10) == 0 ? EDGES[below(EDGES.length)] : below(262144);
    }

    private static int index(LinkModel y) {
        return below(20) == 0 ? EDGES[below(EDGES.length)] : below(y.bits() + 1);
    }

    private static int frame(LinkModel y) {
        return below(20) == 0 ? EDGES[below(EDGES.length)] : below(y.frames() + 1);
    }

    private static void change(String when, int[] mixture, DeepSpaceLink x, LinkModel y) {
        int choice = below(100);
        int kind = 0;
        while (kind < mixture.length && choice >= mixture[kind]) {
            choice -= mixture[kind];
            kind++;
        }
        int message = message();
        int i = index(y);
        boolean one = below(2) == 1;
        switch (kind) {
            case 0 -> due(when, "send", "" + message, x.send(message), y.send(message));
            case 1 -> due(when, "flip", "" + i, x.flip(i), y.flip(i));
            case 2 -> due(when, "drop", "" + i, x.drop(i), y.drop(i));
            case 3 -> due(when, "insert", i + ", " + one, x.insert(i, one), y.insert(i, one));
            default -> due(when, "clear", "", x.clear(), y.clear());
        }
    }

    private static void ask(String when, DeepSpaceLink x, LinkModel y) {
        int k = frame(y);
        int i = index(y);
        switch (below(7)) {
            case 0 -> due(when, "bits", "", x.bits(), y.bits());
            case 1 -> due(when, "bit", "" + i, x.bit(i), y.bit(i));
            case 2 -> due(when, "frames", "", x.frames(), y.frames());
            case 3 -> due(when, "place", "" + k, x.place(k), y.place(k));
            case 4 -> due(when, "message", "" + k, x.message(k), y.message(k));
            case 5 -> due(when, "mended", "" + k, x.mended(k), y.mended(k));
            default -> due(when, "good", "", x.good(), y.good());
        }
    }
}
