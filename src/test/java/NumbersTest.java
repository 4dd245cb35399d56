/** Promises 15 to 22: numbers of leaves, and thresholds. */
public final class NumbersTest {
    private static final Class<?> INDEX = IndexOutOfBoundsException.class;
    private static final Class<?> ARGUMENT = IllegalArgumentException.class;
    private static final Class<?> STATE = IllegalStateException.class;
    private static final int[] NO_NODES = {0, -1, 4, 7, 16, Integer.MAX_VALUE, Integer.MIN_VALUE};

    public static void main(String[] args) {
        promise15SizeOf();
        promise16Number();
        promise17SetNumber();
        promise18Filtered();
        promise18FilteredRefusals();
        promise19Hard();
        promise20Soft();
        promise21Risk();
        promise22BestThreshold();
        Check.end();
    }

    /** Eight samples, split once: the nodes 1 (no leaf), 2 and 3. */
    private static LiftingWorkshop splitOnce() {
        LiftingWorkshop x = Check.with(0, 5, -2, 7, 8, 0, 0, 0, 3);
        x.split(1);
        return x;
    }

    private static void promise15SizeOf() {
        LiftingWorkshop x = new LiftingWorkshop();
        Check.same("15: root", x.sizeOf(1), 8);
        x.begin(32);
        x.split(1);
        x.split(2);
        x.split(5);
        Check.same("15: node 3 of 32", x.sizeOf(3), 16);
        Check.same("15: node 4 of 32", x.sizeOf(4), 8);
        Check.same("15: node 11 of 32", x.sizeOf(11), 4);
        String untouched = Check.stateOf(x);
        Check.refused("15: no leaf", STATE, () -> x.sizeOf(1));
        Check.refused("15: no leaf 5", STATE, () -> x.sizeOf(5));
        for (int node : new int[] {0, -1, 6, 8, 16, Integer.MAX_VALUE, Integer.MIN_VALUE}) {
            Check.refused("15: no node " + node, INDEX, () -> x.sizeOf(node));
        }
        Check.same("15: refused calls leave", Check.stateOf(x), untouched);
        x.begin(4);
        x.split(1);
        x.split(2);
        Check.same("15: node 5 of 4", x.sizeOf(5), 1);
    }

    private static void promise16Number() {
        LiftingWorkshop x = splitOnce();
        Check.same("16: number", x.number(2, 0), 1);
        Check.same("16: number", x.number(3, 0), -7);
        Check.same("16: number", x.number(3, 3), 3);
        String untouched = Check.stateOf(x);
        for (int place : new int[] {-1, 4, 8, Integer.MAX_VALUE, Integer.MIN_VALUE}) {
            Check.refused("16: place " + place, INDEX, () -> x.number(3, place));
            Check.refused("16: no leaf, so no places", STATE, () -> x.number(1, place));
        }
        for (int node : NO_NODES) {
            Check.refused("16: no node " + node, INDEX, () -> x.number(node, 0));
        }
        Check.refused("16: no leaf", STATE, () -> x.number(1, 0));
        Check.same("16: refused calls leave", Check.stateOf(x), untouched);
    }

    private static void promise17SetNumber() {
        LiftingWorkshop x = splitOnce();
        Check.same("17: setNumber", x.setNumber(3, 3, 100000), 3);
        Check.same("17: setNumber", x.setNumber(3, 3, -100000), 100000);
        Check.same("17: number", x.number(3, 3), -100000);
        Check.same("17: others stay", Check.numbers(x, 2) + " " + x.number(3, 2), "1 7 0 1 0");
        Check.same("17: a sample becomes greater", x.sample(6), 1 + 50000);
        String untouched = Check.stateOf(x);
        for (int value : new int[] {100001, -100001, Integer.MAX_VALUE, Integer.MIN_VALUE}) {
            Check.refused("17: value " + value, ARGUMENT, () -> x.setNumber(2, 0, value));
            Check.refused("17: place first", INDEX, () -> x.setNumber(2, 4, value));
            Check.refused("17: no leaf first", STATE, () -> x.setNumber(1, 4, value));
        }
        Check.refused("17: place -1", INDEX, () -> x.setNumber(2, -1, 0));
        Check.refused("17: no leaf", STATE, () -> x.setNumber(1, 0, 0));
        for (int node : NO_NODES) {
            Check.refused("17: no node " + node, INDEX, () -> x.setNumber(node, 0, 100001));
        }
        Check.same("17: refused calls leave", Check.stateOf(x), untouched);
    }

    private static void promise18Filtered() {
        for (int wavelet = 0; wavelet <= 1; wavelet++) {
            for (int length = 4; length <= 32; length *= 2) {
                LiftingWorkshop x = new LiftingWorkshop();
                x.begin(length);
                x.setWavelet(wavelet);
                for (int place = 0; place < length; place++) {
                    x.setSample(place, (place * 739 + 311) % 2001 - 1000);
                }
                long[] told = new long[length / 2];
                for (int k = 0; k < length / 2; k++) {
                    told[k] = x.filtered(1, k);
                }
                x.split(1);
                for (int k = 0; k < length / 2; k++) {
                    Check.same("18: filtered " + k, told[k], x.number(3, k));
                }
            }
        }
        LiftingWorkshop x = Check.with(1, 1, 5, 2, -5);
        Check.same("18: half is rounded up", x.filtered(1, 0), 4);
        Check.same("18: the last even again", x.filtered(1, 1), -7);
        LiftingWorkshop y = Check.with(1, -2, -5, -1, -5);
        Check.same("18: half is rounded up below 0", y.filtered(1, 0), -3);
    }

    private static void promise18FilteredRefusals() {
        LiftingWorkshop x = Check.with(0, 5, -2, 7, 8, 0, 0, 0, 3);
        String untouched = Check.stateOf(x);
        for (int k : new int[] {-1, 4, 8, Integer.MAX_VALUE, Integer.MIN_VALUE}) {
            Check.refused("18: k " + k, INDEX, () -> x.filtered(1, k));
        }
        Check.same("18: refused calls leave", Check.stateOf(x), untouched);
        x.split(1);
        x.split(2);
        x.split(4);
        untouched = Check.stateOf(x);
        Check.refused("18: no leaf", STATE, () -> x.filtered(1, 0));
        Check.refused("18: no leaf, so no places", STATE, () -> x.filtered(1, 9));
        Check.refused("18: one number", INDEX, () -> x.filtered(8, 0));
        Check.refused("18: no node", INDEX, () -> x.filtered(6, 0));
        Check.same("18: refused calls leave the bands", Check.stateOf(x), untouched);
        x.begin(16);
        x.split(1);
        x.split(2);
        x.split(4);
        x.setNumber(9, 0, 3);
        x.setNumber(9, 1, -4);
        Check.same("18: a node that cannot be split", x.filtered(9, 0), -7);
        x.join(1);
        x.setWavelet(2);
        untouched = Check.stateOf(x);
        Check.refused("18: wavelet 2", STATE, () -> x.filtered(1, 0));
        Check.refused("18: wavelet 2, place first", INDEX, () -> x.filtered(1, 8));
        Check.refused("18: wavelet 2, node first", INDEX, () -> x.filtered(2, 0));
        Check.same("18: refused calls leave the wavelet 2", Check.stateOf(x), untouched);
    }

    private static void promise19Hard() {
        LiftingWorkshop x = Check.with(0, 5, -5, 6, -6, 0, 1, 4, -7);
        Check.same("19: threshold 0", x.hard(1, 0), 0);
        Check.same("19: nothing changes", Check.numbers(x, 1), "5 -5 6 -6 0 1 4 -7");
        Check.same("19: threshold 5", x.hard(1, 5), 4);
        Check.same("19: numbers", Check.numbers(x, 1), "0 0 6 -6 0 0 0 -7");
        Check.same("19: again", x.hard(1, 5), 0);
        x.split(1);
        Check.same("19: a band", Check.numbers(x, 3), "0 -12 0 -7");
        Check.same("19: a band", x.hard(3, 11), 1);
        Check.same("19: only that band", Check.numbers(x, 2) + " | " + Check.numbers(x, 3),
                "0 0 0 -4 | 0 -12 0 0");
        Check.same("19: the greatest threshold", x.hard(3, 100000), 1);
        x.setNumber(3, 0, 1);
        Check.same("19: a low band", x.hard(2, 100000), 1);
        Check.same("19: and only that one", Check.numbers(x, 3), "1 0 0 0");
        x.setNumber(3, 0, 0);
        x.setNumber(3, 1, -100000);
        Check.same("19: equal to the threshold", x.hard(3, 100000), 1);
        LiftingWorkshop great = Check.with(0, 0, 0, 0, 0);
        great.setNumber(1, 0, 100000);
        great.setNumber(1, 1, -100000);
        great.split(1);
        Check.same("19: above the greatest threshold", great.hard(3, 100000), 0);
        Check.same("19: it stays", great.number(3, 0), -200000);
        thresholdRefusals("19", false);
    }

    private static void promise20Soft() {
        LiftingWorkshop x = Check.with(0, 5, -5, 6, -6, 0, 1, 4, -7);
        Check.same("20: threshold 0", x.soft(1, 0), 0);
        Check.same("20: nothing changes", Check.numbers(x, 1), "5 -5 6 -6 0 1 4 -7");
        Check.same("20: threshold 5", x.soft(1, 5), 4);
        Check.same("20: numbers", Check.numbers(x, 1), "0 0 1 -1 0 0 0 -2");
        Check.same("20: threshold 1", x.soft(1, 1), 2);
        Check.same("20: numbers", Check.numbers(x, 1), "0 0 0 0 0 0 0 -1");
        x.split(1);
        Check.same("20: a band", x.soft(3, 100000), 1);
        Check.same("20: only that band", Check.numbers(x, 2), "0 0 0 -1");
        thresholdRefusals("20", true);
    }

    private static void thresholdRefusals(String promise, boolean soft) {
        LiftingWorkshop x = splitOnce();
        String untouched = Check.stateOf(x);
        for (int threshold : new int[] {-1, 100001, Integer.MAX_VALUE, Integer.MIN_VALUE}) {
            Check.refused(promise + ": threshold " + threshold, ARGUMENT,
                    () -> apply(x, soft, 2, threshold));
            Check.refused(promise + ": threshold before leaf", ARGUMENT,
                    () -> apply(x, soft, 1, threshold));
            Check.refused(promise + ": node before threshold", INDEX,
                    () -> apply(x, soft, 4, threshold));
        }
        for (int node : NO_NODES) {
            Check.refused(promise + ": no node " + node, INDEX, () -> apply(x, soft, node, 1));
        }
        Check.refused(promise + ": no leaf", STATE, () -> apply(x, soft, 1, 1));
        Check.same(promise + ": refused calls leave", Check.stateOf(x), untouched);
    }

    private static int apply(LiftingWorkshop x, boolean soft, int node, int threshold) {
        return soft ? x.soft(node, threshold) : x.hard(node, threshold);
    }

    private static void promise21Risk() {
        LiftingWorkshop x = Check.with(0, 5, -5, 6, 0);
        Check.same("21: threshold 0", x.risk(1, 3, 0), 4 * 9 - 2 * 9);
        Check.same("21: threshold 5", x.risk(1, 3, 5), 4 * 9 + 25 * 3 - 2 * 9 * 3);
        Check.same("21: threshold 4", x.risk(1, 3, 4), 4 * 9 + 16 * 3 - 2 * 9);
        Check.same("21: all below", x.risk(1, 3, 100), 4 * 9 + 25 + 25 + 36 - 2 * 9 * 4);
        Check.same("21: no noise", x.risk(1, 0, 0), 0);
        Check.same("21: much noise", x.risk(1, 1000, 100000), 4000000 + 86 - 8000000);
        x.setNumber(1, 0, 100000);
        x.setNumber(1, 1, -100000);
        Check.same("21: great numbers", x.risk(1, 1, 100000), 4 + 20000000000L + 36 - 8);
        x.split(1);
        Check.same("21: a band", x.risk(3, 2, 100000), 8 + 10000000000L + 36 - 8);
        String untouched = Check.stateOf(x);
        Check.refused("21: no leaf", STATE, () -> x.risk(1, 1, 1));
        for (int wrong : new int[] {-1, 100001, Integer.MAX_VALUE, Integer.MIN_VALUE}) {
            Check.refused("21: threshold " + wrong, ARGUMENT, () -> x.risk(2, 1, wrong));
            Check.refused("21: noise " + wrong, ARGUMENT, () -> x.risk(2, wrong, 1));
            Check.refused("21: threshold before leaf", ARGUMENT, () -> x.risk(1, 1, wrong));
            Check.refused("21: noise before leaf", ARGUMENT, () -> x.risk(1, wrong, 1));
            Check.refused("21: node first", INDEX, () -> x.risk(4, wrong, wrong));
        }
        Check.refused("21: noise 1001", ARGUMENT, () -> x.risk(2, 1001, 1));
        for (int node : NO_NODES) {
            Check.refused("21: no node " + node, INDEX, () -> x.risk(node, 1, 1));
        }
        Check.same("21: refused calls leave", Check.stateOf(x), untouched);
    }

    private static void promise22BestThreshold() {
        LiftingWorkshop x = Check.with(0, 5, -5, 6, 0);
        // 100 - 50 at 0, 100 + 75 - 150 at 5, 100 + 86 - 200 at 6.
        Check.same("22: risk at 0", x.risk(1, 5, 0), 50);
        Check.same("22: risk at 5", x.risk(1, 5, 5), 25);
        Check.same("22: risk at 6", x.risk(1, 5, 6), -14);
        Check.same("22: best", x.bestThreshold(1, 5), 6);
        Check.same("22: no noise", x.bestThreshold(1, 0), 0);
        Check.same("22: all 0", Check.with(0, 0, 0, 0, 0).bestThreshold(1, 7), 0);
        LiftingWorkshop twins = Check.with(0, 20, 4, 0, 0);
        // 64 - 64 at 0, 64 + 32 - 96 at 4, more at 20.
        Check.same("22: equal least risks", twins.risk(1, 4, 0), twins.risk(1, 4, 4));
        Check.same("22: of several the lowest", twins.bestThreshold(1, 4), 0);
        LiftingWorkshop pair = Check.with(0, 28, -14, 2, 0);
        // 256 + 404 - 384 at 14 is 276, that at 2 is 12, that at 0 is 128; 980 + 8 at 28 is 732.
        Check.same("22: a size in the middle", pair.bestThreshold(1, 8), 2);
        LiftingWorkshop lower = Check.with(0, 8, 6, 0, 0);
        // s = 4: 0 at 0, 64 + 72 - 96 at 6, 64 + 100 - 128 at 8; s = 10: 200 - 200 at most.
        Check.same("22: great numbers of noise", lower.bestThreshold(1, 10), 8);
        LiftingWorkshop later = Check.with(0, 40, -9, 8, 0);
        // s = 20: 800 at 0, 145 at 40, -574 at 9, 192 at 8.
        Check.same("22: sizes in any order", later.bestThreshold(1, 20), 9);
        // s = 2: 0 at 0, 16 + 2 - 24 at 1, 16 + 10 - 32 at 3.
        for (int[] row : new int[][] {{3, 1, 0, 0}, {0, 0, -1, -3}}) {
            LiftingWorkshop tie = Check.with(0, row);
            Check.same("22: risk at 1", tie.risk(1, 2, 1), -6);
            Check.same("22: risk at 3", tie.risk(1, 2, 3), -6);
            Check.same("22: the lower one of two", tie.bestThreshold(1, 2), 1);
        }

        LiftingWorkshop great = Check.with(0, 0, 0, 0, 0);
        great.setNumber(1, 0, 100000);
        great.setNumber(1, 1, -100000);
        great.split(1);
        great.setNumber(3, 1, 300);
        // The size 200000 is no candidate.
        Check.same("22: sizes up to 100000 only", great.bestThreshold(3, 1000), 300);
        great.setNumber(3, 1, -100000);
        Check.same("22: the size 100000 makes it worse", great.bestThreshold(3, 1000), 0);
        bestThresholdRefusals();
    }

    private static void bestThresholdRefusals() {
        LiftingWorkshop x = splitOnce();
        String untouched = Check.stateOf(x);
        Check.refused("22: no leaf", STATE, () -> x.bestThreshold(1, 1));
        for (int noise : new int[] {-1, 1001, Integer.MAX_VALUE, Integer.MIN_VALUE}) {
            Check.refused("22: noise " + noise, ARGUMENT, () -> x.bestThreshold(2, noise));
            Check.refused("22: noise before leaf", ARGUMENT, () -> x.bestThreshold(1, noise));
            Check.refused("22: node first", INDEX, () -> x.bestThreshold(4, noise));
        }
        for (int node : NO_NODES) {
            Check.refused("22: no node " + node, INDEX, () -> x.bestThreshold(node, 1));
        }
        Check.same("22: refused calls leave", Check.stateOf(x), untouched);
    }
}
