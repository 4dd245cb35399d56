/**
 * 'Terms', the last sentence, and the order of the exceptions in 'The public face': for each call
 * that may throw several exceptions, each pair of faults at once.
 */
public final class BoundaryRefusalTest {
    private static final int MAX = Integer.MAX_VALUE;
    private static final int MIN = Integer.MIN_VALUE;

    public static void main(String[] args) {
        Check.sentence("Terms", "When a call throws, nothing has changed; of several exceptions it is"
                + " the first one of the throws clause.");
        setSample();
        setWavelet();
        splitAndJoin();
        number();
        setNumber();
        filtered();
        thresholds();
        risk();
        bits();
        refusedCallsInARow();
        refusedAfterReading();
        Check.end();
    }

    private static LiftingWorkshop lopsidedNineSeven() {
        return Check.split(Check.with(2, 5, -2, 7, 8, 0, 0, 0, 3), 1, 3, 6);
    }

    private static LiftingWorkshop unsplit() {
        return Check.with(1, 5, -2, 7, 8, 0, 0, 0, 3);
    }

    /** Promise 3: of several exceptions it is the first one of the throws clause. */
    private static void setSample() {
        // IndexOutOfBoundsException, IllegalArgumentException, IllegalStateException
        for (int value : new int[] {0, 1001, -1001, MAX, MIN}) {
            Check.refuses(Check.INDEX, Check::lopsided,
                    (x, place) -> x.setSample(place, value), -1, 8, MAX, MIN);
            Check.refuses(Check.INDEX, BoundaryRefusalTest::unsplit,
                    (x, place) -> x.setSample(place, value), -1, 8, MAX, MIN);
        }
        Check.refuses(Check.ARGUMENT, Check::lopsided,
                (x, value) -> x.setSample(0, value), 1001, -1001, MAX, MIN);
        Check.refuses(Check.STATE, Check::lopsided,
                (x, value) -> x.setSample(0, value), 1000, -1000, 0);
    }

    /** Promise 6: of several exceptions it is the first one of the throws clause. */
    private static void setWavelet() {
        // IllegalArgumentException, IllegalStateException
        Check.refuses(Check.ARGUMENT, Check::lopsided,
                (x, wavelet) -> x.setWavelet(wavelet), -1, 3, MAX, MIN);
        Check.refuses(Check.STATE, Check::lopsided,
                (x, wavelet) -> x.setWavelet(wavelet), 0, 1, 2);
    }

    /** Promises 7 and 8: of several exceptions it is the first one of the throws clause. */
    private static void splitAndJoin() {
        // IndexOutOfBoundsException, IllegalStateException
        Check.refuses(Check.INDEX, () -> Check.full(0, 4), (x, node) -> x.split(node), 8, 15, 16, MAX);
        Check.refuses(Check.INDEX, () -> Check.full(0, 4), (x, node) -> x.join(node), 8, 15, 16, MAX);
    }

    /** Promise 16: of several exceptions it is the first one of the throws clause. */
    private static void number() {
        // IndexOutOfBoundsException, IllegalStateException; a node that is no leaf has no places.
        for (int place : new int[] {0, -1, 8, MAX, MIN}) {
            Check.refuses(Check.STATE, Check::lopsided,
                    (x, node) -> x.number(node, place), 1, 3, 6);
            Check.refuses(Check.INDEX, Check::lopsided,
                    (x, node) -> x.number(node, place), 0, 4, 14, MAX, MIN);
        }
    }

    /** Promise 17: of several exceptions it is the first one of the throws clause. */
    private static void setNumber() {
        // IndexOutOfBoundsException, IllegalStateException, IllegalArgumentException
        for (int value : new int[] {0, 100001, -100001, MAX, MIN}) {
            Check.refuses(Check.INDEX, Check::lopsided,
                    (x, node) -> x.setNumber(node, 0, value), 0, 4, 14, MAX, MIN);
            Check.refuses(Check.INDEX, Check::lopsided,
                    (x, place) -> x.setNumber(2, place, value), -1, 4, MAX, MIN);
            Check.refuses(Check.STATE, Check::lopsided,
                    (x, node) -> x.setNumber(node, 0, value), 1, 3, 6);
            Check.refuses(Check.STATE, Check::lopsided,
                    (x, place) -> x.setNumber(3, place, value), -1, 4, 8, MAX, MIN);
        }
        Check.refuses(Check.ARGUMENT, Check::lopsided,
                (x, value) -> x.setNumber(2, 3, value), 100001, -100001, MAX, MIN);
    }

    /** Promise 18: of several exceptions it is the first one of the throws clause. */
    private static void filtered() {
        // IndexOutOfBoundsException, IllegalStateException, which the wavelet 2 throws, too
        for (int k : new int[] {0, -1, 4, MAX, MIN}) {
            Check.refuses(Check.INDEX, BoundaryRefusalTest::lopsidedNineSeven,
                    (x, node) -> x.filtered(node, k), 0, 4, 14, MAX, MIN);
            Check.refuses(Check.STATE, BoundaryRefusalTest::lopsidedNineSeven,
                    (x, node) -> x.filtered(node, k), 1, 3, 6);
        }
        Check.refuses(Check.INDEX, BoundaryRefusalTest::lopsidedNineSeven,
                (x, k) -> x.filtered(2, k), -1, 2, MAX, MIN);
        Check.refuses(Check.INDEX, BoundaryRefusalTest::lopsidedNineSeven,
                (x, k) -> x.filtered(12, k), 0, 1, -1);
        Check.refuses(Check.STATE, BoundaryRefusalTest::lopsidedNineSeven,
                (x, k) -> x.filtered(2, k), 0, 1);
    }

    /** Promises 19 and 20: of several exceptions it is the first one of the throws clause. */
    private static void thresholds() {
        // IndexOutOfBoundsException, IllegalArgumentException, IllegalStateException
        for (int threshold : new int[] {-1, 100001, MAX, MIN}) {
            Check.refuses(Check.INDEX, Check::lopsided,
                    (x, node) -> x.hard(node, threshold), 0, 4, 14, MAX, MIN);
            Check.refuses(Check.INDEX, Check::lopsided,
                    (x, node) -> x.soft(node, threshold), 0, 4, 14, MAX, MIN);
            Check.refuses(Check.ARGUMENT, Check::lopsided,
                    (x, node) -> x.hard(node, threshold), 1, 2, 3, 6);
            Check.refuses(Check.ARGUMENT, Check::lopsided,
                    (x, node) -> x.soft(node, threshold), 1, 2, 3, 6);
        }
    }

    /** Promises 21 and 22: of several exceptions it is the first one of the throws clause. */
    private static void risk() {
        // IndexOutOfBoundsException, IllegalArgumentException, IllegalStateException
        for (int wrong : new int[] {-1, 100001, MAX, MIN}) {
            Check.refuses(Check.INDEX, Check::lopsided,
                    (x, node) -> x.risk(node, wrong, wrong), 0, 4, 14, MAX, MIN);
            Check.refuses(Check.INDEX, Check::lopsided,
                    (x, node) -> x.bestThreshold(node, wrong), 0, 4, 14, MAX, MIN);
            Check.refuses(Check.ARGUMENT, Check::lopsided,
                    (x, node) -> x.risk(node, wrong, 0), 1, 2, 3, 6);
            Check.refuses(Check.ARGUMENT, Check::lopsided,
                    (x, node) -> x.risk(node, 0, wrong), 1, 2, 3, 6);
            Check.refuses(Check.ARGUMENT, Check::lopsided,
                    (x, node) -> x.risk(node, 1001, wrong), 1, 2, 3, 6);
            Check.refuses(Check.ARGUMENT, Check::lopsided,
                    (x, node) -> x.bestThreshold(node, wrong), 1, 2, 3, 6);
        }
    }

    /** Promises 25 to 28: of several exceptions it is the first one of the throws clause. */
    private static void bits() {
        // IllegalStateException, IllegalArgumentException, IndexOutOfBoundsException
        for (int place : new int[] {-1, 0, 8, MAX, MIN}) {
            Check.refuses(Check.STATE, Check::lopsided,
                    (x, bits) -> x.broughtBack(bits, place), -1, 0, MAX, MIN);
            Check.refuses(Check.ARGUMENT, BoundaryRefusalTest::unsplit,
                    (x, bits) -> x.broughtBack(bits, place), -1, MIN);
        }
        Check.refuses(Check.INDEX, BoundaryRefusalTest::unsplit,
                (x, place) -> x.broughtBack(0, place), -1, 8, MAX, MIN);
        Check.refuses(Check.STATE, Check::lopsided, (x, place) -> x.bitAt(place),
                -1, 0, MAX, MIN);
        Check.refuses(Check.STATE, Check::lopsided, (x, bits) -> x.errorWith(bits),
                -1, MIN);
        Check.refuses(Check.STATE, Check::lopsided, (x, error) -> x.bitsFor(error),
                -1, MIN);
    }

    /** When a call throws, nothing has changed. */
    private static void refusedCallsInARow() {
        LiftingWorkshop x = Check.lopsided();
        int refused = 0;
        for (int round = 0; round < 20; round++) {
            Check.Call[] calls = {() -> x.begin(5), () -> x.setSample(0, 1), () -> x.sample(8),
                () -> x.setWavelet(0), () -> x.split(1), () -> x.join(2), () -> x.isLeaf(4),
                () -> x.leafAt(4), () -> x.costOf(4), () -> x.chooseBasis(0), () -> x.sizeOf(3),
                () -> x.number(2, 4), () -> x.setNumber(2, 0, 100001), () -> x.filtered(2, 2),
                () -> x.hard(2, -1), () -> x.soft(6, 1), () -> x.risk(2, 1, 100001),
                () -> x.bestThreshold(2, 1001), () -> x.bits(), () -> x.bitAt(0)};
            for (Check.Call call : calls) {
                try {
                    call.make();
                } catch (RuntimeException e) {
                    refused++;
                }
            }
        }
        Check.same("all are refused", refused, 400);
        Check.same("nothing has changed", Check.stateOf(x), Check.stateOf(Check.lopsided()));
    }

    /** When a call throws, nothing has changed. */
    private static void refusedAfterReading() {
        LiftingWorkshop x = Check.bands(0, 2, 5, 0, -2, 1);
        String due = Check.code(x) + Check.broughtBack(x, 15);
        Check.refused("bits below 0", x, Check.ARGUMENT, () -> x.broughtBack(-1, 0));
        Check.refused("a place behind the last one", x, Check.INDEX, () -> x.broughtBack(22, 4));
        Check.refused("a bit behind the last one", x, Check.INDEX, () -> x.bitAt(22));
        Check.same("the code is the same", Check.code(x) + Check.broughtBack(x, 15), due);
    }
}
