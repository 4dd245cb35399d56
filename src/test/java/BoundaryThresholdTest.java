/** 'Terms' of thresholds, and promises 19 to 22: each sentence that names a boundary case. */
public final class BoundaryThresholdTest {
    private static final int MAX = Integer.MAX_VALUE;
    private static final int MIN = Integer.MIN_VALUE;
    private static final int[] WRONG_THRESHOLDS = {-1, -5, 100001, MAX, MIN};
    private static final int[] WRONG_NOISES = {-1, -5, 1001, 100000, MAX, MIN};

    public static void main(String[] args) {
        hardMakesZero();
        softBringsNearer();
        thresholdValues();
        thresholdsOnOneLeaf();
        thresholdsBeyondTheGreatest();
        hardReturnsHowMany();
        softReturnsHowMany();
        thresholdsRefuseNoNode();
        thresholdsRefuseValues();
        thresholdsRefuseNoLeaf();
        riskOfThreshold();
        riskAtLimits();
        riskIsLong();
        riskRefuses();
        bestOfNoughtAndSizes();
        bestOfSizesUpToLimit();
        bestOfSeveralIsLowest();
        bestAtLimits();
        bestRefuses();
        Check.end();
    }

    private static String afterHard(int threshold, int... numbers) {
        LiftingWorkshop x = Check.leaf(numbers);
        x.hard(1, threshold);
        return Check.numbers(x, 1);
    }

    private static String afterSoft(int threshold, int... numbers) {
        LiftingWorkshop x = Check.leaf(numbers);
        x.soft(1, threshold);
        return Check.numbers(x, 1);
    }

    private static void hardMakesZero() {
        Check.sentence("Terms", "A hard threshold t makes each number 0 whose size is t or less.");
        Check.same("below it", afterHard(5, 4, -4, 1, -1), "0 0 0 0");
        Check.same("just it, and one more", afterHard(5, 5, -5, 6, -6), "0 0 6 -6");
        Check.same("a threshold of 0", afterHard(0, 1, -1, 0, 100000), "1 -1 0 100000");
        Check.same("a threshold of 1", afterHard(1, 1, -1, 2, -2), "0 0 2 -2");
        Check.same("the greatest", afterHard(100000, 100000, -100000, 99999, 0), "0 0 0 0");
        Check.same("the greatest but one", afterHard(99999, 100000, -100000, 99999, 0),
                "100000 -100000 0 0");
    }

    private static void softBringsNearer() {
        Check.sentence("Terms",
                "A soft one does so, too, and brings all other numbers nearer to 0 by t.");
        Check.same("below it", afterSoft(5, 4, -4, 1, -1), "0 0 0 0");
        Check.same("just it, and one more", afterSoft(5, 5, -5, 6, -6), "0 0 1 -1");
        Check.same("a threshold of 0", afterSoft(0, 1, -1, 0, 100000), "1 -1 0 100000");
        Check.same("a threshold of 1", afterSoft(1, 1, -1, 2, -2), "0 0 1 -1");
        Check.same("the greatest", afterSoft(100000, 100000, -100000, 99999, 0), "0 0 0 0");
        Check.same("the greatest but one", afterSoft(99999, 100000, -100000, 99999, 0), "1 -1 0 0");
    }

    private static void thresholdValues() {
        int[] thresholds = {0, 1, 99999, 100000};
        int[] due = {0, 1, 1, 2};
        Check.sentence("Promise 19", "`threshold`: 0 to 100000");
        for (int k = 0; k < thresholds.length; k++) {
            Check.same("threshold " + thresholds[k],
                    Check.leaf(0, 0, 1, 100000).hard(1, thresholds[k]), due[k]);
        }
        Check.sentence("Promise 20", "`threshold`: 0 to 100000");
        for (int k = 0; k < thresholds.length; k++) {
            Check.same("threshold " + thresholds[k],
                    Check.leaf(0, 0, 1, 100000).soft(1, thresholds[k]), due[k]);
        }
    }

    private static void thresholdsOnOneLeaf() {
        Check.sentence("Promise 19", "Applies a hard threshold to a leaf.");
        LiftingWorkshop hard = Check.bands(0, 2, 3, -3, 3, -3, 3, -3, 3, -3);
        Check.same("the leaf in the middle", hard.hard(5, 3), 2);
        Check.same("the others stay", Check.numbers(hard, 4) + " | " + Check.numbers(hard, 5)
                + " | " + Check.numbers(hard, 3), "3 -3 | 0 0 | 3 -3 3 -3");
        Check.sentence("Promise 20", "Applies a soft threshold to a leaf.");
        LiftingWorkshop soft = Check.bands(0, 2, 3, -3, 3, -3, 3, -3, 3, -3);
        Check.same("the leaf in the middle", soft.soft(5, 2), 0);
        Check.same("the others stay", Check.numbers(soft, 4) + " | " + Check.numbers(soft, 5)
                + " | " + Check.numbers(soft, 3), "3 -3 | 1 -1 | 3 -3 3 -3");
    }

    private static LiftingWorkshop withGreatBand() {
        // The high band is -200000 0, so setNumber could not set it.
        return Check.split(Check.leaf(100000, -100000, 0, 0), 1);
    }

    private static void thresholdsBeyondTheGreatest() {
        Check.sentence("Terms", "makes each number 0 whose size is t or less");
        LiftingWorkshop hard = withGreatBand();
        Check.same("no number becomes 0", hard.hard(3, 100000), 0);
        Check.same("it stays", hard.number(3, 0), -200000);
        LiftingWorkshop soft = withGreatBand();
        Check.same("no number becomes 0 by a soft one", soft.soft(3, 100000), 0);
        Check.same("it is nearer to 0", soft.number(3, 0), -100000);
        Check.same("then it becomes 0", soft.soft(3, 100000), 1);
    }

    private static void hardReturnsHowMany() {
        Check.sentence("Promise 19", "Returns how many numbers become 0 that were not.");
        Check.same("none of zeros", Check.leaf(0, 0, 0, 0).hard(1, 100000), 0);
        Check.same("all", Check.leaf(1, -1, 2, -2).hard(1, 2), 4);
        Check.same("some", Check.leaf(1, 0, 2, -3).hard(1, 2), 2);
        Check.same("none with 0", Check.leaf(1, 0, 2, -3).hard(1, 0), 0);
        Check.same("one number", Check.full(0, 4).hard(7, 100000), 1);
        LiftingWorkshop x = Check.leaf(1, 2, 0, 0);
        x.hard(1, 2);
        Check.same("none at the second time", x.hard(1, 2), 0);
    }

    private static void softReturnsHowMany() {
        Check.sentence("Promise 20", "Returns how many numbers become 0 that were not.");
        Check.same("none of zeros", Check.leaf(0, 0, 0, 0).soft(1, 100000), 0);
        Check.same("all", Check.leaf(1, -1, 2, -2).soft(1, 2), 4);
        Check.same("some", Check.leaf(1, 0, 2, -3).soft(1, 2), 2);
        Check.same("none with 0", Check.leaf(1, 0, 2, -3).soft(1, 0), 0);
        LiftingWorkshop x = Check.leaf(3, -4, 0, 0);
        x.soft(1, 2);
        Check.same("others at the second time", x.soft(1, 2), 2);
    }

    private static void thresholdsRefuseNoNode() {
        Check.sentence("Promise 19", "Throws `IndexOutOfBoundsException` if there is no such node");
        Check.refuses(Check.INDEX, Check::lopsided, (x, node) -> x.hard(node, 5),
                Check.NONE_OF_LOPSIDED);
        Check.sentence("Promise 20", "Throws `IndexOutOfBoundsException` if there is no such node");
        Check.refuses(Check.INDEX, Check::lopsided, (x, node) -> x.soft(node, 5),
                Check.NONE_OF_LOPSIDED);
    }

    private static void thresholdsRefuseValues() {
        Check.sentence("Promise 19", "Throws `IllegalArgumentException` if threshold is out of range");
        Check.refuses(Check.ARGUMENT, () -> Check.leaf(9, 1, 0, -1),
                (x, threshold) -> x.hard(1, threshold), WRONG_THRESHOLDS);
        Check.sentence("Promise 20", "Throws `IllegalArgumentException` if threshold is out of range");
        Check.refuses(Check.ARGUMENT, () -> Check.leaf(9, 1, 0, -1),
                (x, threshold) -> x.soft(1, threshold), WRONG_THRESHOLDS);
    }

    private static void thresholdsRefuseNoLeaf() {
        Check.sentence("Promise 19", "Throws `IllegalStateException` if it is no leaf");
        Check.refuses(Check.STATE, Check::lopsided, (x, node) -> x.hard(node, 5),
                Check.PARENTS_OF_LOPSIDED);
        Check.sentence("Promise 20", "Throws `IllegalStateException` if it is no leaf");
        Check.refuses(Check.STATE, Check::lopsided, (x, node) -> x.soft(node, 5),
                Check.PARENTS_OF_LOPSIDED);
    }

    private static void riskOfThreshold() {
        Check.sentence("Terms", "is n * s * s, plus the sum of the lesser one of c * c and t * t over"
                + " all its numbers c, less 2 * s * s times how many of them have a size of t or less");
        LiftingWorkshop x = Check.leaf(5, -5, 6, 0);
        Check.same("just below two numbers", x.risk(1, 3, 4), 36 + 3 * 16 - 18);
        Check.same("just two numbers", x.risk(1, 3, 5), 36 + 3 * 25 - 3 * 18);
        Check.same("all numbers", x.risk(1, 3, 6), 36 + 25 + 25 + 36 - 4 * 18);
        Check.same("above all numbers", x.risk(1, 3, 7), 36 + 25 + 25 + 36 - 4 * 18);
        Check.same("a threshold of 0: zeros count", x.risk(1, 3, 0), 36 - 18);
        Check.same("the numbers stay", Check.numbers(x, 1), "5 -5 6 0");
        LiftingWorkshop one = Check.bands(0, 2, 7, 8, 9, 9);
        Check.same("one number", one.risk(5, 2, 8), 4 + 64 - 8);
        Check.same("one number above it", one.risk(5, 2, 7), 4 + 49);
    }

    private static void riskAtLimits() {
        Check.sentence("Promise 21", "`noise`: 0 to 1000");
        LiftingWorkshop x = Check.leaf(5, -5, 6, 0);
        Check.same("least noise", x.risk(1, 0, 5), 3 * 25);
        Check.same("greatest noise", x.risk(1, 1000, 5), 4000000 + 3 * 25 - 6000000);
        Check.sentence("Promise 21", "`threshold`: 0 to 100000");
        Check.same("least threshold, least noise", x.risk(1, 0, 0), 0);
        Check.same("least threshold", x.risk(1, 1000, 0), 4000000 - 2000000);
        Check.same("greatest threshold, least noise", x.risk(1, 0, 100000), 25 + 25 + 36);
        Check.same("greatest threshold", x.risk(1, 1000, 100000), 4000000 + 86 - 8000000);
    }

    private static void riskIsLong() {
        Check.sentence("Promise 21", "Returns the risk of a soft threshold for a leaf.");
        LiftingWorkshop x = new LiftingWorkshop();
        x.begin(32);
        for (int place = 0; place < 32; place++) {
            x.setNumber(1, place, place % 2 == 0 ? -100000 : 100000);
        }
        Check.same("32 great numbers", x.risk(1, 1000, 100000), 320000000000L - 32000000L);
        Check.same("just below them", x.risk(1, 1000, 99999),
                32L * 99999 * 99999 + 32000000L);
        x.split(1);
        Check.same("greater than every threshold", x.risk(3, 1000, 100000),
                16L * 100000 * 100000 + 16000000L);
        Check.same("a low band of zeros", x.risk(2, 1000, 100000), -16000000L);
    }

    private static void riskRefuses() {
        Check.sentence("Promise 21", "Throws `IndexOutOfBoundsException` if there is no such node");
        Check.refuses(Check.INDEX, Check::lopsided, (x, node) -> x.risk(node, 1, 1),
                Check.NONE_OF_LOPSIDED);
        Check.sentence("Promise 21",
                "Throws `IllegalArgumentException` if noise or threshold is out of range");
        Check.refuses(Check.ARGUMENT, Check::lopsided,
                (x, noise) -> x.risk(2, noise, 1), WRONG_NOISES);
        Check.refuses(Check.ARGUMENT, Check::lopsided,
                (x, threshold) -> x.risk(2, 1, threshold), WRONG_THRESHOLDS);
        Check.sentence("Promise 21", "Throws `IllegalStateException` if it is no leaf");
        Check.refuses(Check.STATE, Check::lopsided, (x, node) -> x.risk(node, 1, 1),
                Check.PARENTS_OF_LOPSIDED);
    }

    private static void bestOfNoughtAndSizes() {
        Check.sentence("Promise 22", "of 0 and those sizes of its numbers");
        // Noise 5: 50 at 0, 25 at 5, -14 at 6.
        Check.same("the greatest size", Check.leaf(5, -5, 6, 0).bestThreshold(1, 5), 6);
        // Noise 8: 128 at 0, 12 at 2, 276 at 14.
        Check.same("the least size", Check.leaf(28, -14, 2, 0).bestThreshold(1, 8), 2);
        // Noise 1: 4 at 0, and at 9 4 * 81 more.
        Check.same("0, which no number is", Check.leaf(9, 9, 9, 9).bestThreshold(1, 1), 0);
        Check.same("a negative number in the last place", Check.leaf(0, 0, 0, -3).bestThreshold(1, 9),
                3);
        Check.same("a positive number in the first place", Check.leaf(3, 0, 0, 0).bestThreshold(1, 9),
                3);
        // Any threshold from 2 on would be as good, but only 2 is a size.
        Check.same("a size, no other number", Check.leaf(2, -2, 2, 2).bestThreshold(1, 1000), 2);
        Check.same("one number", Check.bands(0, 2, 0, -7, 0, 0).bestThreshold(5, 9), 7);
        LiftingWorkshop bands = Check.bands(0, 1, 0, 0, 5, 5);
        Check.same("only of its own numbers", bands.bestThreshold(2, 100), 0);
        Check.same("only of its own numbers, high", bands.bestThreshold(3, 100), 5);
    }

    private static void bestOfSizesUpToLimit() {
        Check.sentence("Promise 22", "those sizes of its numbers that are 100000 or less");
        LiftingWorkshop x = withGreatBand();
        Check.same("a size of 200000", x.bestThreshold(3, 1000), 0);
        x.setNumber(3, 1, 999);
        Check.same("beside one that is less", x.bestThreshold(3, 1000), 999);
        x.setNumber(3, 1, 100000);
        Check.same("beside 100000", x.bestThreshold(3, 1000), 0);
    }

    private static void bestOfSeveralIsLowest() {
        Check.sentence("Promise 22", "of several the lowest");
        // Noise 1: 2 at 0, 2 + 1 + 1 - 2 at 1.
        Check.same("0 and a size", Check.bands(0, 1, 1, 5, 0, 0).bestThreshold(2, 1), 0);
        Check.same("0 and a size, the other way round",
                Check.bands(0, 1, 5, -1, 0, 0).bestThreshold(2, 1), 0);
        // Noise 2: 0 at 0, 16 + 2 - 24 at 1, 16 + 10 - 32 at 3.
        Check.same("two sizes, the lower one first", Check.leaf(1, 3, 0, 0).bestThreshold(1, 2), 1);
        Check.same("two sizes, the lower one last", Check.leaf(-3, 0, 0, -1).bestThreshold(1, 2), 1);
        Check.same("all zeros", Check.leaf(0, 0, 0, 0).bestThreshold(1, 1000), 0);
    }

    private static void bestAtLimits() {
        Check.sentence("Promise 22", "`noise`: 0 to 1000");
        Check.same("no noise", Check.leaf(5, -5, 6, 0).bestThreshold(1, 0), 0);
        Check.same("no noise, no zero", Check.leaf(1, 1, 1, 1).bestThreshold(1, 0), 0);
        Check.same("the greatest noise", Check.leaf(5, -5, 6, 0).bestThreshold(1, 1000), 6);
        // 4000000 at 0, 4 * 1414 * 1414 - 4000000 at 1414, one more would be too much.
        Check.same("the greatest size that pays", Check.leaf(1414, 1414, -1414, -1414)
                .bestThreshold(1, 1000), 1414);
        Check.same("a size that does not pay", Check.leaf(1415, 1415, -1415, -1415)
                .bestThreshold(1, 1000), 0);
    }

    private static void bestRefuses() {
        Check.sentence("Promise 22", "Throws `IndexOutOfBoundsException` if there is no such node");
        Check.refuses(Check.INDEX, Check::lopsided,
                (x, node) -> x.bestThreshold(node, 1), Check.NONE_OF_LOPSIDED);
        Check.sentence("Promise 22", "Throws `IllegalArgumentException` if noise is out of range");
        Check.refuses(Check.ARGUMENT, Check::lopsided,
                (x, noise) -> x.bestThreshold(2, noise), WRONG_NOISES);
        Check.sentence("Promise 22", "Throws `IllegalStateException` if it is no leaf");
        Check.refuses(Check.STATE, Check::lopsided,
                (x, node) -> x.bestThreshold(node, 1), Check.PARENTS_OF_LOPSIDED);
    }
}
