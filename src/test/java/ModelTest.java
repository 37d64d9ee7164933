/** Promises 1 to 13 together: the same mixed runs on the class and on the model. */
public final class ModelTest {
    private static final int RUNS = 400;
    private static final int CALLS = 512;
    private static final int[] EDGES = {
        -1, 0, 1, 5, 6, 49, 50, 249, 250, 299, 300, 301, 262143, 262144,
        Integer.MIN_VALUE, Integer.MAX_VALUE
    };

    // Its own generator, so that every run of the test is the same on every machine.
    private static long state = 20261115L;

    private static int below(int bound) {
        state = state * 6364136223846793005L + 1442695040888963407L;
        return (int) ((state >>> 33) % bound);
    }

    public static void main(String[] args) {
        for (int run = 0; run < RUNS; run++) {
            mixedRun(run);
        }
        Check.end();
    }

    private static void mixedRun(int run) {
        DeepSpaceLink x = new DeepSpaceLink();
        LinkModel y = new LinkModel();
        int quiet = 1 + run % 6;
        for (int n = 0; n < CALLS; n++) {
            String when = "run " + run + ", call " + n + ": ";
            if (below(quiet + 1) == 0) {
                change(when, x, y);
            } else {
                ask(when, x, y);
            }
        }
    }

    private static int index(LinkModel y) {
        return below(20) == 0 ? EDGES[below(EDGES.length)] : below(y.bits() + 1);
    }

    private static int frame(LinkModel y) {
        return below(20) == 0 ? EDGES[below(EDGES.length)] : below(y.frames() + 1);
    }

    private static void change(String when, DeepSpaceLink x, LinkModel y) {
        int choice = below(40);
        int i = index(y);
        if (choice < 10) {
            int message = below(10) == 0 ? EDGES[below(EDGES.length)] : below(262144);
            Check.due(when + "send(" + message + ")", x.send(message), y.send(message));
        } else if (choice < 24) {
            Check.due(when + "flip(" + i + ")", x.flip(i), y.flip(i));
        } else if (choice < 32) {
            Check.due(when + "drop(" + i + ")", x.drop(i), y.drop(i));
        } else if (choice < 39) {
            boolean one = below(2) == 1;
            Check.due(when + "insert(" + i + ", " + one + ")", x.insert(i, one), y.insert(i, one));
        } else if (below(4) == 0) {
            Check.due(when + "clear()", x.clear(), y.clear());
        }
    }

    private static void ask(String when, DeepSpaceLink x, LinkModel y) {
        int k = frame(y);
        int i = index(y);
        switch (below(7)) {
            case 0 -> Check.due(when + "bits()", x.bits(), y.bits());
            case 1 -> Check.due(when + "bit(" + i + ")", x.bit(i), y.bit(i));
            case 2 -> Check.due(when + "frames()", x.frames(), y.frames());
            case 3 -> Check.due(when + "place(" + k + ")", x.place(k), y.place(k));
            case 4 -> Check.due(when + "message(" + k + ")", x.message(k), y.message(k));
            case 5 -> Check.due(when + "mended(" + k + ")", x.mended(k), y.mended(k));
            default -> Check.due(when + "good()", x.good(), y.good());
        }
    }
}
