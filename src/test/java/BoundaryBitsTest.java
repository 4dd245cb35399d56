/** Promises 23 to 28: a test for each sentence that names a boundary case. */
public final class BoundaryBitsTest {
    private static final int MAX = Integer.MAX_VALUE;
    private static final int MIN = Integer.MIN_VALUE;

    public static void main(String[] args) {
        isPyramidTells();
        isPyramidNeverRefuses();
        bitsOfNumbersAsTheyAre();
        bitsRefuse();
        bitAtFirst();
        bitAtAsTheyAre();
        bitAtRefusesNoPyramid();
        bitAtRefusesPlaces();
        broughtBackAllIfFewer();
        broughtBackTreeStays();
        broughtBackPlaces();
        broughtBackRefusesNoPyramid();
        broughtBackRefusesBits();
        broughtBackRefusesPlaces();
        errorWithSizes();
        errorWithAllIfFewer();
        errorWithRefuses();
        bitsForLeast();
        bitsForNotAbove();
        bitsForRisingError();
        bitsForLimits();
        bitsForRefuses();
        Check.end();
    }

    /** Trees with a high band that has children. */
    private static final int[][] NO_PYRAMIDS = {{1, 3}, {1, 2, 5}, {1, 3, 6}, {1, 3, 7},
        {1, 2, 3, 4, 5, 6, 7}};

    private static LiftingWorkshop haar(int splits, int... row) {
        return Check.bands(0, splits, row);
    }

    private static LiftingWorkshop noPyramid(int[] nodes) {
        return Check.split(Check.with(1, 5, -2, 7, 8, 0, 0, 0, 3), nodes);
    }

    private static void refusedByAll(Check.CallWith call, int... arguments) {
        for (int[] nodes : NO_PYRAMIDS) {
            Check.refuses(Check.STATE, () -> noPyramid(nodes), call, arguments);
        }
    }

    private static void isPyramidTells() {
        Check.sentence("Promise 23", "Tells whether the tree is a pyramid.");
        int[][] pyramids = {{}, {1}, {1, 2}, {1, 2, 4}};
        for (int[] nodes : pyramids) {
            Check.same("one", noPyramid(nodes).isPyramid(), true);
        }
        for (int[] nodes : NO_PYRAMIDS) {
            Check.same("none", noPyramid(nodes).isPyramid(), false);
        }
        LiftingWorkshop small = Check.split(Check.with(0, 1, 2, 3, 4), 1, 2);
        Check.same("of 4 samples", small.isPyramid(), true);
        small.split(3);
        Check.same("of 4 samples, a high band is split", small.isPyramid(), false);
    }

    private static void isPyramidNeverRefuses() {
        Check.sentence("Promise 23", "Tells whether the tree is a pyramid.");
        LiftingWorkshop x = noPyramid(NO_PYRAMIDS[4]);
        int[] joins = {6, 7, 3, 5, 4, 2, 1};
        for (int k = 0; k < joins.length; k++) {
            Check.same("before " + joins[k] + " is joined", x.isPyramid(), k >= 4);
            x.join(joins[k]);
        }
        Check.same("at last", x.isPyramid(), true);
        x.split(1);
        x.split(3);
        x.begin(4);
        Check.same("after a new beginning", x.isPyramid(), true);
    }

    private static void bitsOfNumbersAsTheyAre() {
        Check.sentence("Promise 24",
                "Returns how many bits the numbers are coded into, as they are now.");
        LiftingWorkshop x = new LiftingWorkshop();
        Check.same("of a new object", x.bits(), 6);
        x.setSample(7, 1);
        Check.same("after setSample", x.bits(), 6 + 9);
        x.setNumber(1, 0, -2);
        Check.same("after setNumber", x.bits(), 6 + 9 + 9);
        x.hard(1, 1);
        Check.same("after hard", x.bits(), 6 + 9 + 8);
        x.soft(1, 1);
        Check.same("after soft", x.bits(), 6 + 9);
        x.setNumber(1, 0, 0);
        x.split(1);
        Check.same("after a split of zeros", x.bits(), 6);
        x.begin(32);
        Check.same("after begin", x.bits(), 6);
        x.setSample(0, 1);
        Check.same("of 32 numbers", x.bits(), 6 + 33);
        LiftingWorkshop most = new LiftingWorkshop();
        most.begin(32);
        for (int place = 0; place < 32; place++) {
            most.setNumber(1, place, -65536 - place);
        }
        Check.same("of 32 great numbers", most.bits(), 6 + 64 + 16 * 32);
    }

    private static void bitsRefuse() {
        Check.sentence("Promise 24", "Throws `IllegalStateException` if the tree is no pyramid");
        refusedByAll((x, nothing) -> x.bits(), 0);
    }

    private static void bitAtFirst() {
        Check.sentence("Promise 25", "`place`: 0 for the first one");
        LiftingWorkshop x = haar(0, 100000, 0, 0, 0);
        Check.same("the first bit, that of 32 planes", x.bitAt(0), 0);
        Check.same("the second bit, that of 16 planes", x.bitAt(1), 1);
        LiftingWorkshop one = haar(0, 0, 0, 0, -1);
        Check.same("the sixth bit", one.bitAt(5), 1);
        Check.same("the last bit but one", one.bitAt(9), 1);
        Check.same("the last bit", one.bitAt(10), 1);
        Check.same("the first place behind the six bits", one.bitAt(6), 0);
    }

    private static void bitAtAsTheyAre() {
        Check.sentence("Promise 25", "Returns a bit of the code of the numbers as they are now.");
        LiftingWorkshop x = haar(0, 1, 0, 0, 0);
        Check.same("the sign", x.bitAt(7), 0);
        x.setNumber(1, 0, -1);
        Check.same("the other sign", x.bitAt(7), 1);
        x.setNumber(1, 0, -4);
        Check.same("another number of planes", x.bitAt(4), 1);
        x.split(1);
        // The row is -2 0 | 4 0.
        Check.same("of the bands", Check.code(x), "000011" + "01" + "00" + "10"
                + "11" + "00" + "0" + "00" + "0" + "0");
    }

    private static void bitAtRefusesNoPyramid() {
        Check.sentence("Promise 25", "Throws `IllegalStateException` if the tree is no pyramid");
        refusedByAll((x, place) -> x.bitAt(place), 0, 5, -1, 100000, MAX, MIN);
    }

    private static void bitAtRefusesPlaces() {
        Check.sentence("Promise 25",
                "Throws `IndexOutOfBoundsException` if there are not so many bits");
        Check.refuses(Check.INDEX, LiftingWorkshop::new, (x, place) -> x.bitAt(place),
                -1, 6, 7, 5000, MAX, MIN);
        Check.refuses(Check.INDEX, () -> haar(2, 5, 0, -2, 1), (x, place) -> x.bitAt(place),
                -1, 22, 23, 5000, MAX, MIN);
        Check.same("the last one", haar(2, 5, 0, -2, 1).bitAt(21), 0);
        Check.refuses(Check.INDEX, () -> {
            LiftingWorkshop x = haar(0, 100000, 1, 1, 1);
            x.bits();
            x.setNumber(1, 0, 0);
            return x;
        }, (x, place) -> x.bitAt(place), 14, 15, 50);
    }

    private static void broughtBackAllIfFewer() {
        Check.sentence("Promise 26", "`bits`: how many, 0 or more; all if there are fewer");
        LiftingWorkshop x = haar(2, 5, 0, -2, 1);
        String samples = Check.samples(x);
        Check.same("none", Check.broughtBack(x, 0), "0 0 0 0");
        Check.same("one", Check.broughtBack(x, 1), "0 0 0 0");
        Check.same("all", Check.broughtBack(x, 22), samples);
        Check.same("one more", Check.broughtBack(x, 23), samples);
        Check.same("many more", Check.broughtBack(x, MAX), samples);
        Check.same("of zeros, many more", new LiftingWorkshop().broughtBack(MAX, 7), 0);
    }

    private static void broughtBackTreeStays() {
        Check.sentence("Promise 26",
                "Returns a sample that the first bits of the code bring back; the tree stays as it is.");
        for (int splits = 0; splits <= 3; splits++) {
            LiftingWorkshop x = Check.bands(2, splits, 500, -400, 300, 20, -10, 0, 7, 1000);
            String before = Check.stateOf(x);
            Check.same("no bits", x.broughtBack(0, 7), 0);
            x.broughtBack(20, 0);
            x.errorWith(15);
            x.bitsFor(3);
            Check.same("after " + splits + " splits", Check.stateOf(x), before);
            Check.same("the last sample", x.broughtBack(MAX, 7), x.sample(7));
        }
    }

    private static void broughtBackPlaces() {
        Check.sentence("Promise 26", "`place`: of the sample");
        for (int length = 4; length <= 32; length *= 2) {
            int[] row = new int[length];
            row[0] = 1;
            row[length - 1] = -1;
            LiftingWorkshop leaf = haar(0, row);
            Check.same("the first", leaf.broughtBack(MAX, 0), 1);
            Check.same("the last", leaf.broughtBack(MAX, length - 1), -1);
            // The high number -1 makes the last two samples 1 and 0, the low one the first two 1.
            LiftingWorkshop bands = haar(1, row);
            Check.same("of bands, the first", bands.broughtBack(MAX, 0), 1);
            Check.same("of bands, the second", bands.broughtBack(MAX, 1), 1);
            Check.same("of bands, the last but one", bands.broughtBack(MAX, length - 2), 1);
            Check.same("of bands, the last", bands.broughtBack(MAX, length - 1), 0);
        }
    }

    private static void broughtBackRefusesNoPyramid() {
        Check.sentence("Promise 26", "Throws `IllegalStateException` if the tree is no pyramid");
        refusedByAll((x, bits) -> x.broughtBack(bits, 0), 0, 6, 1000, -1, MAX, MIN);
        refusedByAll((x, place) -> x.broughtBack(0, place), 0, 7, 8, -1, MAX, MIN);
        refusedByAll((x, place) -> x.broughtBack(-1, place), 0, 7, 8, -1, MAX, MIN);
    }

    private static void broughtBackRefusesBits() {
        Check.sentence("Promise 26", "Throws `IllegalArgumentException` if bits is below 0");
        Check.refuses(Check.ARGUMENT, () -> haar(2, 5, 0, -2, 1),
                (x, bits) -> x.broughtBack(bits, 0), -1, -2, -6, -MAX, MIN);
    }

    private static void broughtBackRefusesPlaces() {
        Check.sentence("Promise 26",
                "Throws `IndexOutOfBoundsException` if there is no such place in the signal");
        for (int splits = 0; splits <= 2; splits++) {
            int used = splits;
            for (int bits : new int[] {0, 6, MAX}) {
                Check.refuses(Check.INDEX, () -> haar(used, 5, 0, -2, 1),
                        (x, place) -> x.broughtBack(bits, place), -1, 4, 5, 8, 31, 32, MAX, MIN);
            }
        }
        Check.refuses(Check.INDEX, () -> haar(0, new int[32]), (x, place) -> x.broughtBack(0, place),
                -1, 32, 33, MAX, MIN);
    }

    private static void errorWithSizes() {
        Check.sentence("Promise 27", "the sizes of the differences, together");
        LiftingWorkshop x = haar(0, 5, -5, 3, -3);
        Check.same("no bits", x.errorWith(0), 16);
        // 6 0 0 0, then 6 -6 0 0, then 6 -6 3 0 and 6 -6 3 -3, then 5 -5 3 -3.
        Check.same("one above", x.errorWith(8), 1 + 5 + 3 + 3);
        Check.same("one above and one below", x.errorWith(12), 1 + 1 + 3 + 3);
        Check.same("both of the next plane", x.errorWith(16), 1 + 1 + 0 + 0);
        Check.same("a digit", x.errorWith(17), 0 + 1 + 0 + 0);
        Check.same("all bits", x.errorWith(x.bits()), 0);
        LiftingWorkshop last = haar(0, 0, 0, 0, -100000);
        Check.same("the last sample counts", last.errorWith(0), 100000);
        LiftingWorkshop bands = haar(1, 0, 0, 0, 8);
        // The samples are 0 0 -4 4; the high number is 12 at first, the samples 0 0 -6 6.
        Check.same("of samples, not of numbers", bands.errorWith(0), 8);
        Check.same("of samples, some bits", bands.errorWith(12), 4);
        LiftingWorkshop great = new LiftingWorkshop();
        great.begin(32);
        for (int place = 0; place < 32; place++) {
            great.setNumber(1, place, place % 2 == 0 ? 100000 : -100000);
        }
        Check.same("of 32 great numbers", great.errorWith(0), 3200000);
    }

    private static void errorWithAllIfFewer() {
        Check.sentence("Promise 27", "`bits`: how many, 0 or more; all if there are fewer");
        LiftingWorkshop x = Check.bands(2, 3, 500, -400, 300, 20, -10, 0, 7, 1000);
        int bits = x.bits();
        Check.same("all", x.errorWith(bits), 0);
        Check.same("one more", x.errorWith(bits + 1), 0);
        Check.same("many more", x.errorWith(MAX), 0);
        Check.same("of zeros", new LiftingWorkshop().errorWith(0), 0);
        Check.same("fewer than six are as good as none", x.errorWith(5), x.errorWith(0));
        Check.same("none is not good", x.errorWith(0) > 0, true);
    }

    private static void errorWithRefuses() {
        Check.sentence("Promise 27", "Throws `IllegalStateException` if the tree is no pyramid");
        refusedByAll((x, bits) -> x.errorWith(bits), 0, 6, -1, MAX, MIN);
        Check.sentence("Promise 27", "Throws `IllegalArgumentException` if bits is below 0");
        Check.refuses(Check.ARGUMENT, () -> haar(2, 5, 0, -2, 1), (x, bits) -> x.errorWith(bits),
                -1, -2, -6, -MAX, MIN);
    }

    private static void bitsForLeast() {
        Check.sentence("Promise 28",
                "Returns the least number of bits with an error that is not above some error.");
        for (int wavelet = 0; wavelet <= 2; wavelet++) {
            for (int splits = 0; splits <= 3; splits++) {
                for (int error : new int[] {0, 1, 2, 7, 30, 100, 1000, 3000}) {
                    LiftingWorkshop x = Check.bands(wavelet, splits, 50, -40, 30, 20, -10, 0, 7, 100);
                    int least = 0;
                    while (least < 300 && x.errorWith(least) > error) {
                        least++;
                    }
                    Check.same("error " + error, x.bitsFor(error), least);
                }
            }
        }
    }

    private static void bitsForNotAbove() {
        Check.sentence("Promise 28", "an error that is not above some error");
        // The errors are 16 up to 7 bits, 12 with 8, 8 with 10.
        LiftingWorkshop x = haar(0, 5, -5, 3, -3);
        Check.same("just the error of no bits", x.bitsFor(16), 0);
        Check.same("one below it", x.bitsFor(15), 8);
        Check.same("just the error of 8 bits", x.bitsFor(12), 8);
        Check.same("one below that", x.bitsFor(11), 10);
        Check.same("no error", x.bitsFor(0), 18);
        Check.same("with one bit less there is one", x.errorWith(17) > 0, true);
    }

    private static void bitsForRisingError() {
        Check.sentence("Promise 28", "the least number of bits");
        // 6 is guessed with 8 bits, 7 with 12, and 6 is known with the last bit.
        LiftingWorkshop x = haar(0, 6, 0, 0, 0);
        Check.same("a right guess", x.errorWith(8), 0);
        Check.same("a worse one behind it", x.errorWith(15), 1);
        Check.same("the last bit", x.errorWith(19), 0);
        Check.same("the first of both", x.bitsFor(0), 8);
    }

    private static void bitsForLimits() {
        Check.sentence("Promise 28", "`error`: 0 or more");
        Check.same("of zeros", new LiftingWorkshop().bitsFor(0), 0);
        LiftingWorkshop x = haar(0, 100000, -100000, 99999, 1);
        Check.same("the greatest error", x.bitsFor(MAX), 0);
        Check.same("no error", x.errorWith(x.bitsFor(0)), 0);
        Check.same("all bits", haar(0, 0, 0, 0, 1).bitsFor(0), 11);
    }

    private static void bitsForRefuses() {
        Check.sentence("Promise 28", "Throws `IllegalStateException` if the tree is no pyramid");
        refusedByAll((x, error) -> x.bitsFor(error), 0, 6, -1, MAX, MIN);
        Check.sentence("Promise 28", "Throws `IllegalArgumentException` if error is below 0");
        Check.refuses(Check.ARGUMENT, () -> haar(2, 5, 0, -2, 1), (x, error) -> x.bitsFor(error),
                -1, -2, -6, -MAX, MIN);
        Check.refuses(Check.ARGUMENT, LiftingWorkshop::new, (x, error) -> x.bitsFor(error), -1, MIN);
    }
}
