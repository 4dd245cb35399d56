import java.util.Random;

/** Runs of calls, valid and wrong ones, with the same answers as the plain model gives. */
public final class ModelTest {
    private static final int RUNS = 1500;
    /** An object is used for at most 512 calls; some are made before a run, and some behind it. */
    private static final int MOST_CALLS = 512 - 100;
    private static final String[] NAMES = Calls.NAMES;
    /** How often each of the calls is made. */
    private static final int[] WEIGHTS = {1, 30, 8, 1, 3, 14, 5, 3, 3, 3, 4, 5, 2, 3,
        6, 10, 6, 2, 2, 4, 4, 3, 3, 8, 8, 4, 1};

    public static void main(String[] args) {
        int[] answered = new int[NAMES.length];
        int[] refused = new int[NAMES.length];
        for (int run = 0; run < RUNS; run++) {
            run(run, answered, refused);
        }
        for (int call = 0; call < NAMES.length; call++) {
            if (answered[call] == 0) {
                Check.report(NAMES[call] + " was never answered");
            }
        }
        Check.end();
    }

    private static void run(int seed, int[] answered, int[] refused) {
        Random random = new Random(seed);
        LiftingWorkshop x = new LiftingWorkshop();
        PlainModel model = new PlainModel();
        StringBuilder story = new StringBuilder();
        int calls = 20 + random.nextInt(MOST_CALLS - 20);
        int loudness = random.nextInt(4);
        prepare(random, seed, x, model);
        for (int made = 0; made < calls; made++) {
            int call = draw(random);
            int[] given = arguments(random, call, loudness, (int) model.length());
            String got = Calls.answer(() -> Calls.ofProgram(x, call, given));
            String due = Calls.answer(() -> Calls.ofModel(model, call, given));
            story.append(NAMES[call]).append(java.util.Arrays.toString(given)).append(' ');
            if (due.matches("-?[0-9]+")) {
                answered[call]++;
            } else {
                refused[call]++;
            }
            if (!got.equals(due)) {
                Check.report("seed " + seed + ": " + story + "answered " + got + ", due " + due);
                return;
            }
        }
        for (int place = 0; place < model.length(); place++) {
            Check.same("seed " + seed + ", sample " + place + " at the end",
                    x.sample(place), model.sample(place));
        }
        for (int node = 1; node < 16; node++) {
            Check.same("seed " + seed + ", node " + node + " at the end",
                    x.isNode(node) ? 1 : 0, model.isNode(node));
        }
    }

    /** Every length and wavelet, and many pyramids, which random splits seldom make. */
    private static void prepare(Random random, int seed, LiftingWorkshop x, PlainModel model) {
        int length = 4 << seed % 4;
        Check.same("begin", x.begin(length), model.begin(length));
        int wavelet = seed / 4 % 3;
        Check.same("setWavelet", x.setWavelet(wavelet), model.setWavelet(wavelet));
        for (int place = 0; place < length; place++) {
            int value = random.nextInt(2001) - 1000;
            Check.same("setSample", x.setSample(place, value), model.setSample(place, value));
        }
        int node = 1;
        for (int level = random.nextInt(5); level > 0 && node < 8 && length >= 2; level--) {
            Check.same("split " + node, x.split(node), model.split(node));
            node *= 2;
            length /= 2;
        }
    }

    private static int draw(Random random) {
        int sum = 0;
        for (int weight : WEIGHTS) {
            sum += weight;
        }
        int left = random.nextInt(sum);
        int call = 0;
        while (left >= WEIGHTS[call]) {
            left -= WEIGHTS[call];
            call++;
        }
        return call;
    }

    private static int[] arguments(Random random, int call, int loudness, int length) {
        int node = wild(random, random.nextInt(10) == 0 ? random.nextInt(18) : 1 + random.nextInt(7));
        if (random.nextInt(4) == 0) {
            node = 8 + random.nextInt(8);
        } else if (NAMES[call].equals("split") && random.nextInt(2) == 0) {
            node = 1 << random.nextInt(3);
        }
        int place = wild(random, random.nextInt(length));
        int inLeaf = wild(random, random.nextInt(1 + length / (1 + random.nextInt(8))));
        int bits = random.nextInt(1 + random.nextInt(800));
        int small = new int[] {3, 40, 1000, 1000}[loudness];
        int great = new int[] {5, 60, 3000, 100000}[loudness];
        return switch (NAMES[call]) {
            case "begin" -> new int[] {wild(random, 4 << random.nextInt(4))};
            case "setSample" -> new int[] {place, edge(random, between(random, small), 1000)};
            case "setWavelet" -> new int[] {wild(random, random.nextInt(3))};
            case "chooseBasis" -> new int[] {wild(random, 1 + random.nextInt(3))};
            case "leafAt" -> new int[] {wild(random, random.nextInt(8))};
            case "number", "filtered" -> new int[] {node, inLeaf};
            case "setNumber" -> new int[] {node, inLeaf,
                edge(random, between(random, great), 100000)};
            case "hard", "soft" -> new int[] {node, edge(random, random.nextInt(great), 100000)};
            case "risk" -> new int[] {node, edge(random, random.nextInt(small), 1000),
                edge(random, random.nextInt(great), 100000)};
            case "bestThreshold" -> new int[] {node, edge(random, random.nextInt(small), 1000)};
            case "bitAt" -> new int[] {wild(random, bits)};
            case "broughtBack" -> new int[] {wild(random, bits), place};
            case "errorWith" -> new int[] {wild(random, bits)};
            case "bitsFor" -> new int[] {wild(random, random.nextInt(great))};
            case "length", "leaves", "isPyramid", "bits" -> new int[0];
            case "sample" -> new int[] {place};
            default -> new int[] {node};
        };
    }

    private static int between(Random random, int size) {
        return random.nextInt(2 * size + 1) - size;
    }

    /** Now and then a wrong argument. */
    private static int wild(Random random, int value) {
        return switch (random.nextInt(60)) {
            case 0 -> -1;
            case 1 -> random.nextInt(70);
            case 2 -> Integer.MAX_VALUE;
            case 3 -> Integer.MIN_VALUE;
            default -> value;
        };
    }

    /** Now and then a limit, or what is just beyond it. */
    private static int edge(Random random, int value, int limit) {
        return switch (random.nextInt(60)) {
            case 0 -> limit;
            case 1 -> limit + 1;
            case 2 -> -limit;
            case 3 -> -limit - 1;
            case 4 -> -1;
            case 5 -> 0;
            default -> value;
        };
    }
}
