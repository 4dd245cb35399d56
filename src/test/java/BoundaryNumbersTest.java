/** Promises 15 to 18: a test for each sentence that names a boundary case. */
public final class BoundaryNumbersTest {
    private static final int MAX = Integer.MAX_VALUE;
    private static final int MIN = Integer.MIN_VALUE;

    public static void main(String[] args) {
        sizeOfLeaf();
        sizeOfRefusesNoNode();
        sizeOfRefusesNoLeaf();
        numberOfLeaf();
        numberRefusesPlaces();
        numberRefusesNoLeaf();
        setNumberValues();
        setNumberChangesOne();
        setNumberReturnsBefore();
        setNumberRefusesPlaces();
        setNumberRefusesNoLeaf();
        setNumberRefusesValues();
        filteredTellsHighBand();
        filteredPlaces();
        filteredOfUnsplittable();
        filteredHaar();
        filteredRoundsUp();
        filteredLastEven();
        filteredRefusesPlaces();
        filteredRefusesState();
        Check.end();
    }

    private static void sizeOfLeaf() {
        Check.sentence("Promise 15", "Returns how many numbers a leaf holds.");
        for (int length = 4; length <= 32; length *= 2) {
            LiftingWorkshop x = new LiftingWorkshop();
            x.begin(length);
            Check.same("the root", x.sizeOf(1), length);
            Check.split(x, 1, 3);
            Check.same("the low band", x.sizeOf(2), length / 2);
            Check.same("the high band of the high band", x.sizeOf(7), length / 4);
        }
        Check.same("one number", Check.full(0, 4).sizeOf(7), 1);
        Check.same("one number of eight", Check.full(0, 8).sizeOf(15), 1);
        Check.same("four numbers", Check.full(0, 32).sizeOf(8), 4);
    }

    private static void sizeOfRefusesNoNode() {
        Check.sentence("Promise 15", "Throws `IndexOutOfBoundsException` if there is no such node");
        Check.refuses(Check.INDEX, Check::lopsided, (x, node) -> x.sizeOf(node),
                Check.NONE_OF_LOPSIDED);
        Check.refuses(Check.INDEX, () -> Check.full(0, 32), (x, node) -> x.sizeOf(node), 0, 16, 31);
    }

    private static void sizeOfRefusesNoLeaf() {
        Check.sentence("Promise 15", "Throws `IllegalStateException` if it is no leaf");
        Check.refuses(Check.STATE, Check::lopsided, (x, node) -> x.sizeOf(node),
                Check.PARENTS_OF_LOPSIDED);
    }

    private static void numberOfLeaf() {
        Check.sentence("Promise 16", "Returns a number of a leaf.");
        LiftingWorkshop x = Check.bands(0, 2, 11, 12, 21, 22, 31, 32, 33, 34);
        Check.same("the first leaf", x.number(4, 0) + " " + x.number(4, 1), "11 12");
        Check.same("the leaf beside it", x.number(5, 0) + " " + x.number(5, 1), "21 22");
        Check.same("the last leaf", x.number(3, 0) + " " + x.number(3, 3), "31 34");
        LiftingWorkshop great = Check.leaf(-100000, 100000, 0, 0);
        great.split(1);
        Check.same("a number that setNumber cannot set", great.number(3, 0), 200000);
    }

    private static void numberRefusesPlaces() {
        Check.sentence("Promise 16", "Throws `IndexOutOfBoundsException` if there is no such node,"
                + " or it is a leaf and has no such place");
        Check.refuses(Check.INDEX, Check::lopsided, (x, node) -> x.number(node, 0),
                Check.NONE_OF_LOPSIDED);
        Check.refuses(Check.INDEX, LiftingWorkshop::new, (x, place) -> x.number(1, place),
                -1, 8, 9, 31, 32, MAX, MIN);
        Check.refuses(Check.INDEX, Check::lopsided, (x, place) -> x.number(2, place),
                -1, 4, 5, 8, MAX, MIN);
        Check.refuses(Check.INDEX, Check::lopsided, (x, place) -> x.number(12, place),
                -1, 1, 2, MAX, MIN);
        Check.refuses(Check.INDEX, () -> Check.full(2, 32), (x, place) -> x.number(15, place),
                -1, 4, 32, MAX, MIN);
    }

    private static void numberRefusesNoLeaf() {
        Check.sentence("Promise 16", "Throws `IllegalStateException` if it is no leaf");
        for (int place : new int[] {0, -1, 8, MAX, MIN}) {
            Check.refuses(Check.STATE, Check::lopsided,
                    (x, node) -> x.number(node, place), Check.PARENTS_OF_LOPSIDED);
        }
    }

    private static void setNumberValues() {
        Check.sentence("Promise 17", "`value`: -100000 to 100000");
        for (int value : new int[] {-100000, -99999, -1001, -1, 0, 1, 1001, 99999, 100000}) {
            LiftingWorkshop x = new LiftingWorkshop();
            x.setNumber(1, 7, value);
            Check.same("the number of the root", x.number(1, 7), value);
            x.split(1);
            x.setNumber(3, 0, value);
            Check.same("the number of a band", x.number(3, 0), value);
        }
    }

    private static void setNumberChangesOne() {
        Check.sentence("Promise 17", "Changes a number of a leaf.");
        LiftingWorkshop x = Check.bands(0, 2, 1, 2, 3, 4, 5, 6, 7, 8);
        x.setNumber(5, 0, -9);
        Check.same("the first of a leaf", Check.numbers(x, 4) + " | " + Check.numbers(x, 5) + " | "
                + Check.numbers(x, 3), "1 2 | -9 4 | 5 6 7 8");
        x.setNumber(5, 1, -8);
        Check.same("the last of a leaf", Check.numbers(x, 4) + " | " + Check.numbers(x, 5) + " | "
                + Check.numbers(x, 3), "1 2 | -9 -8 | 5 6 7 8");
    }

    private static void setNumberReturnsBefore() {
        Check.sentence("Promise 17", "Returns the number before.");
        LiftingWorkshop x = new LiftingWorkshop();
        Check.same("of a new object", x.setNumber(1, 0, 100000), 0);
        Check.same("the greatest", x.setNumber(1, 0, -100000), 100000);
        Check.same("the least", x.setNumber(1, 0, -100000), -100000);
        Check.same("the same again", x.setNumber(1, 1, 100000), 0);
        x.split(1);
        Check.same("one that setNumber cannot set", x.setNumber(3, 0, 0), 200000);
    }

    private static void setNumberRefusesPlaces() {
        Check.sentence("Promise 17", "Throws `IndexOutOfBoundsException` if there is no such node,"
                + " or it is a leaf and has no such place");
        Check.refuses(Check.INDEX, Check::lopsided,
                (x, node) -> x.setNumber(node, 0, 1), Check.NONE_OF_LOPSIDED);
        Check.refuses(Check.INDEX, LiftingWorkshop::new, (x, place) -> x.setNumber(1, place, 1),
                -1, 8, 9, 31, 32, MAX, MIN);
        Check.refuses(Check.INDEX, Check::lopsided,
                (x, place) -> x.setNumber(2, place, 1), -1, 4, 5, 8, MAX, MIN);
        Check.refuses(Check.INDEX, Check::lopsided,
                (x, place) -> x.setNumber(13, place, 1), -1, 1, 2, MAX, MIN);
        Check.refuses(Check.INDEX, () -> Check.full(2, 32),
                (x, place) -> x.setNumber(15, place, 1), -1, 4, 32, MAX, MIN);
    }

    private static void setNumberRefusesNoLeaf() {
        Check.sentence("Promise 17", "Throws `IllegalStateException` if it is no leaf");
        for (int place : new int[] {0, -1, 8, MAX, MIN}) {
            Check.refuses(Check.STATE, Check::lopsided,
                    (x, node) -> x.setNumber(node, place, 1), Check.PARENTS_OF_LOPSIDED);
        }
    }

    private static void setNumberRefusesValues() {
        Check.sentence("Promise 17", "Throws `IllegalArgumentException` if value is out of range");
        Check.refuses(Check.ARGUMENT, () -> Check.with(0, 1, 2, 3, 4),
                (x, value) -> x.setNumber(1, 3, value), 100001, -100001, MAX, MIN);
        Check.refuses(Check.ARGUMENT, Check::lopsided,
                (x, value) -> x.setNumber(12, 0, value), 100001, -100001, MAX, MIN);
    }

    private static void filteredTellsHighBand() {
        Check.sentence("Promise 18",
                "Returns a number that the high band of a leaf would hold, if it was split");
        for (int wavelet = 0; wavelet <= 1; wavelet++) {
            for (int node = 1; node < 4; node++) {
                LiftingWorkshop x = Check.full(wavelet, 32);
                x.join(node);
                int half = x.sizeOf(node) / 2;
                long[] told = new long[half];
                for (int k = 0; k < half; k++) {
                    told[k] = x.filtered(node, k);
                }
                Check.same("it is still a leaf", x.isLeaf(node), true);
                x.split(node);
                for (int k = 0; k < half; k++) {
                    Check.same("node " + node + ", k " + k, told[k], x.number(2 * node + 1, k));
                }
            }
        }
    }

    private static void filteredPlaces() {
        Check.sentence("Promise 18", "`k`: the place in the high band");
        for (int length = 4; length <= 32; length *= 2) {
            LiftingWorkshop x = Check.bands(0, 0, new int[length]);
            x.setNumber(1, 1, 7);
            x.setNumber(1, length - 1, 9);
            Check.same("the first place of " + length, x.filtered(1, 0), 7);
            Check.same("the last place of " + length, x.filtered(1, length / 2 - 1), 9);
        }
    }

    private static void filteredOfUnsplittable() {
        Check.sentence("Promise 18", "be its number below 8 or not");
        for (int node = 8; node < 16; node++) {
            for (int wavelet = 0; wavelet <= 1; wavelet++) {
                LiftingWorkshop x = Check.full(wavelet, 32);
                x.setNumber(node, 0, 10);
                x.setNumber(node, 1, 25);
                x.setNumber(node, 2, 20);
                x.setNumber(node, 3, -5);
                Check.same("node " + node, x.filtered(node, 0), wavelet == 0 ? 15 : 10);
                Check.same("the last of node " + node, x.filtered(node, 1), -25);
            }
        }
    }

    private static void filteredHaar() {
        Check.sentence("Promise 18", "for the wavelet 0, and the numbers x, x[2 * k + 1] - x[2 * k]");
        LiftingWorkshop x = Check.leaf(100000, -100000, 3, 3, 0, 0, -100000, 100000);
        Check.same("the first", x.filtered(1, 0), -200000);
        Check.same("two alike", x.filtered(1, 1), 0);
        Check.same("the last", x.filtered(1, 3), 200000);
    }

    private static void filteredRoundsUp() {
        Check.sentence("Promise 18",
                "2 * x[2 * k + 1] - x[2 * k] - x[2 * k + 2], divided by 2, rounded up");
        int[][] rows = {{1, 5, 2}, {2, 5, 2}, {-2, -5, -1}, {0, 0, 1}, {0, 0, -1}, {1, 0, 0},
            {-1, 0, 0}, {-1, 0, 1}, {100000, -100000, 99999}, {-100000, 100000, -99999}};
        int[] due = {4, 3, -3, 0, 1, 0, 1, 0, -199999, 200000};
        for (int row = 0; row < rows.length; row++) {
            LiftingWorkshop x = Check.bands(1, 0, rows[row][0], rows[row][1], rows[row][2], 0);
            Check.same("row " + row, x.filtered(1, 0), due[row]);
            x.split(1);
            Check.same("row " + row + " when it is split", x.number(3, 0), due[row]);
        }
    }

    private static void filteredLastEven() {
        Check.sentence("Promise 18", "(the last x[2 * k + 2] is x[2 * k])");
        LiftingWorkshop x = Check.bands(1, 0, 9, 0, 4, 1);
        Check.same("the last of four", x.filtered(1, 1), -3);
        LiftingWorkshop eight = Check.bands(1, 0, 9, 0, 0, 0, 0, 0, 5, 3);
        Check.same("the last of eight", eight.filtered(1, 3), -2);
        Check.same("the last but one", eight.filtered(1, 2), -2);
        LiftingWorkshop pair = Check.bands(1, 1, 4, 1, 50, 60);
        Check.same("the only one of a low band", pair.filtered(2, 0), -3);
        Check.same("the only one of a high band", pair.filtered(3, 0), 10);
    }

    private static void filteredRefusesPlaces() {
        Check.sentence("Promise 18", "Throws `IndexOutOfBoundsException` if there is no such node,"
                + " or it is a leaf and its high band would have no such place");
        Check.refuses(Check.INDEX, Check::lopsided, (x, node) -> x.filtered(node, 0),
                Check.NONE_OF_LOPSIDED);
        for (int length = 4; length <= 32; length *= 2) {
            int used = length;
            Check.refuses(Check.INDEX, () -> Check.bands(1, 0, new int[used]),
                    (x, k) -> x.filtered(1, k), -1, used / 2, used / 2 + 1, used, MAX, MIN, 1 << 30,
                    MIN / 2);
        }
        Check.refuses(Check.INDEX, Check::lopsided, (x, k) -> x.filtered(2, k),
                -1, 2, 3, 4, MAX, MIN);
        // A leaf of one number would have a high band of none.
        Check.refuses(Check.INDEX, () -> Check.full(0, 4), (x, node) -> x.filtered(node, 0),
                4, 5, 6, 7);
        Check.refuses(Check.INDEX, () -> Check.full(1, 8), (x, node) -> x.filtered(node, 0), 8, 15);
    }

    private static void filteredRefusesState() {
        Check.sentence("Promise 18",
                "Throws `IllegalStateException` if it is no leaf, or the wavelet is 2");
        for (int k : new int[] {0, -1, 4, MAX, MIN}) {
            Check.refuses(Check.STATE, Check::lopsided,
                    (x, node) -> x.filtered(node, k), Check.PARENTS_OF_LOPSIDED);
        }
        Check.refuses(Check.STATE, () -> Check.with(2, 1, 2, 3, 4), (x, k) -> x.filtered(1, k), 0, 1);
        Check.refuses(Check.STATE, () -> Check.full(2, 32), (x, node) -> x.filtered(node, 1), 8, 15);
        Check.refuses(Check.STATE, () -> Check.full(2, 32), (x, node) -> x.filtered(node, 0), 1, 7);
    }
}
