import java.util.Arrays;

/**
 * Each call with each mixture of arguments at and beyond the limits, on trees of each shape: it
 * answers, or throws, what the plain model does, and a call that throws has changed nothing.
 */
public final class BoundarySweepTest {
    private static final int MAX = Integer.MAX_VALUE;
    private static final int MIN = Integer.MIN_VALUE;
    private static final int[] NODES = {MIN, MIN + 1, -1, 0, 1, 2, 3, 4, 7, 8, 15, 16, 31, 1 << 30,
        MAX};
    private static final int[] PLACES = {MIN, -1, 0, 1, 2, 3, 4, 7, 8, 15, 16, 31, 32, 1 << 30, MAX};
    private static final int[] BITS = {MIN, -1, 0, 1, 5, 6, 7, 8, 9, 20, 64, 5000, MAX};
    private static final int[] SAMPLES = {MIN, -1001, -1000, -1, 0, 1, 1000, 1001, MAX};
    private static final int[] NUMBERS = {MIN, -100001, -100000, 0, 100000, 100001, MAX};
    private static final int[] THRESHOLDS = {MIN, -1, 0, 1, 999, 100000, 100001, MAX};
    private static final int[] NOISES = {MIN, -1, 0, 1, 1000, 1001, MAX};
    private static final int[] NONE = {0};

    public static void main(String[] args) {
        Check.sentence("Terms", "When a call throws, nothing has changed; of several exceptions it is"
                + " the first one of the throws clause.");
        for (int length : new int[] {4, 8, 32}) {
            for (int wavelet : new int[] {0, 1, 2}) {
                for (int shape = 0; shape < 4; shape++) {
                    sweep(length, wavelet, shape);
                }
            }
        }
        Check.end();
    }

    private static void sweep(int length, int wavelet, int shape) {
        int[] nodes = shapes(length)[shape];
        String untouched = Check.stateOf(made(length, wavelet, nodes));
        for (int call = 0; call < Calls.NAMES.length; call++) {
            int[][] values = arguments(Calls.NAMES[call]);
            for (int first : values[0]) {
                for (int second : values[1]) {
                    for (int third : values[2]) {
                        int[] given = {first, second, third};
                        one(made(length, wavelet, nodes), model(length, wavelet, nodes), call, given,
                                untouched);
                    }
                }
            }
        }
    }

    private static void one(LiftingWorkshop x, PlainModel model, int call, int[] given,
            String untouched) {
        String got = Calls.answer(() -> Calls.ofProgram(x, call, given));
        String due = Calls.answer(() -> Calls.ofModel(model, call, given));
        String what = Calls.NAMES[call] + Arrays.toString(given) + " at " + untouched;
        Check.same(what, got, due);
        if (due.endsWith("Exception")) {
            Check.same(what + " leaves", Check.stateOf(x), untouched);
        } else {
            for (int place = 0; place < model.length(); place++) {
                Check.same(what + " has the sample " + place, x.sample(place), model.sample(place));
            }
        }
    }

    /** Which nodes are split: none, a pyramid, a tree that is none, all. */
    private static int[][] shapes(int length) {
        return length == 4 ? new int[][] {{}, {1, 2}, {1, 3}, {1, 2, 3}}
                : new int[][] {{}, {1, 2, 4}, {1, 3, 7}, {1, 2, 3, 4, 5, 6, 7}};
    }

    /** What the first, the second and the third argument may be. */
    private static int[][] arguments(String name) {
        return switch (name) {
            case "begin" -> new int[][] {{MIN, -4, 0, 3, 4, 5, 8, 16, 31, 32, 33, 64, MAX}, NONE, NONE};
            case "setSample" -> new int[][] {PLACES, SAMPLES, NONE};
            case "sample", "leafAt" -> new int[][] {PLACES, NONE, NONE};
            case "setWavelet", "chooseBasis" -> new int[][] {{MIN, -1, 0, 1, 2, 3, 4, MAX}, NONE, NONE};
            case "number", "filtered" -> new int[][] {NODES, PLACES, NONE};
            case "setNumber" -> new int[][] {{-1, 0, 1, 2, 3, 8, 15, 16}, {MIN, -1, 0, 3, 4, 32, MAX},
                NUMBERS};
            case "hard", "soft" -> new int[][] {NODES, THRESHOLDS, NONE};
            case "risk" -> new int[][] {{-1, 0, 1, 2, 3, 8, 15, 16}, NOISES, THRESHOLDS};
            case "bestThreshold" -> new int[][] {NODES, NOISES, NONE};
            case "bitAt", "errorWith" -> new int[][] {BITS, NONE, NONE};
            case "broughtBack" -> new int[][] {BITS, PLACES, NONE};
            case "bitsFor" -> new int[][] {{MIN, -1, 0, 1, 500, MAX}, NONE, NONE};
            case "length", "leaves", "isPyramid", "bits" -> new int[][] {NONE, NONE, NONE};
            default -> new int[][] {NODES, NONE, NONE};
        };
    }

    private static LiftingWorkshop made(int length, int wavelet, int[] nodes) {
        LiftingWorkshop x = new LiftingWorkshop();
        x.begin(length);
        x.setWavelet(wavelet);
        for (int place = 0; place < length; place++) {
            x.setSample(place, place * 739 % 2001 - 1000);
        }
        return Check.split(x, nodes);
    }

    private static PlainModel model(int length, int wavelet, int[] nodes) {
        PlainModel model = new PlainModel();
        model.begin(length);
        model.setWavelet(wavelet);
        for (int place = 0; place < length; place++) {
            model.setSample(place, place * 739 % 2001 - 1000);
        }
        for (int node : nodes) {
            model.split(node);
        }
        return model;
    }
}
