/** 'What it is', and promises 1 to 6: a test for each sentence that names a boundary case. */
public final class BoundarySignalTest {
    private static final int MAX = Integer.MAX_VALUE;
    private static final int MIN = Integer.MIN_VALUE;
    private static final int[] LENGTHS = {4, 8, 16, 32};

    public static void main(String[] args) {
        usedForManyCalls();
        usedForManyDearCalls();
        lengthsOfSignals();
        firstWavelet();
        newObjectBegins();
        beginLengths();
        beginAnew();
        beginReturnsLengthBefore();
        beginRefuses();
        setSampleValues();
        setSampleSetsOne();
        setSampleReturnsBefore();
        setSamplePlaces();
        setSampleRefusesValues();
        setSampleRefusesSplitRoot();
        sampleOfTree();
        samplePlaces();
        lengthOfSignal();
        setWaveletValues();
        setWaveletChanges();
        setWaveletReturnsBefore();
        setWaveletRefusesValues();
        setWaveletRefusesSplitRoot();
        Check.end();
    }

    private static void usedForManyCalls() {
        Check.sentence("What it is", "at most 512 calls after it has been made");
        LiftingWorkshop x = new LiftingWorkshop();
        for (int call = 1; call <= 511; call++) {
            int before = call > 8 ? call - 8 : 0;
            Check.same("call " + call, x.setSample(call % 8, call), before);
        }
        Check.same("call 512", x.sample(511 % 8), 511);
    }

    private static void usedForManyDearCalls() {
        Check.sentence("What it is", "at most 512 calls after it has been made");
        LiftingWorkshop x = Check.bands(2, 3, 100000, -100000, 99999, 1, 0, -1, 65536, 65535);
        int bits = x.bits();
        int enough = x.bitsFor(0);
        for (int call = 0; call < 400; call++) {
            int refused = 0;
            try {
                x.bitAt(bits + call);
            } catch (IndexOutOfBoundsException e) {
                refused = 1;
            }
            Check.same("a refused call", refused, 1);
            call++;
            Check.same("bitsFor again", x.bitsFor(0), enough);
        }
        Check.same("the numbers stay", Check.numbers(x, 8) + " " + Check.numbers(x, 9) + " "
                + Check.numbers(x, 5) + " " + Check.numbers(x, 3),
                "100000 -100000 99999 1 0 -1 65536 65535");
    }

    private static void lengthsOfSignals() {
        Check.sentence("Terms", "A signal has 4, 8, 16 or 32 samples; it has 8 at first, all 0.");
        Check.same("at first", Check.samples(new LiftingWorkshop()), "0 0 0 0 0 0 0 0");
        for (int length : LENGTHS) {
            LiftingWorkshop x = new LiftingWorkshop();
            x.begin(length);
            Check.same("the last place of " + length, x.setSample(length - 1, 9), 0);
            Check.same("the last sample of " + length, x.sample(length - 1), 9);
            Check.same("the numbers of the root", x.sizeOf(1), length);
        }
    }

    private static void firstWavelet() {
        Check.sentence("Terms", "At first the wavelet is 0.");
        Check.same("the wavelet", new LiftingWorkshop().setWavelet(2), 0);
        LiftingWorkshop x = new LiftingWorkshop();
        x.setSample(1, -1);
        x.split(1);
        Check.same("a split at first", Check.numbers(x, 2) + " | " + Check.numbers(x, 3),
                "-1 0 0 0 | -1 0 0 0");
    }

    private static void newObjectBegins() {
        Check.sentence("Promise 1", "Begins with 8 samples of 0.");
        LiftingWorkshop used = Check.full(2, 32);
        LiftingWorkshop x = new LiftingWorkshop();
        Check.same("length", x.length(), 8);
        Check.same("its state, whatever another object holds", Check.stateOf(x),
                "8: 0 0 0 0 0 0 0 0 | 1: 0 0 0 0 0 0 0 0 | wavelet 0");
        Check.same("cost", x.costOf(1), 0);
        Check.same("the other object", used.leaves(), 8);
        Check.refuses(Check.INDEX, LiftingWorkshop::new, (y, place) -> y.sample(place), 8, -1);
    }

    private static void beginLengths() {
        Check.sentence("Promise 2", "`length`: 4, 8, 16 or 32");
        for (int length : LENGTHS) {
            LiftingWorkshop x = new LiftingWorkshop();
            x.begin(length);
            Check.same("length", x.length(), length);
            Check.same("leaves", Check.leaves(x), "1");
        }
    }

    private static void beginAnew() {
        Check.sentence("Promise 2", "Begins anew with a signal of samples of 0; the wavelet stays.");
        for (int wavelet = 0; wavelet <= 2; wavelet++) {
            for (int length : LENGTHS) {
                LiftingWorkshop x = Check.full(wavelet, length);
                x.begin(4);
                Check.same("after " + length, Check.stateOf(x),
                        "4: 0 0 0 0 | 1: 0 0 0 0 | wavelet " + wavelet);
            }
            LiftingWorkshop longer = Check.full(wavelet, 32);
            longer.begin(4);
            longer.begin(32);
            Check.same("nothing is left behind the fourth place", longer.costOf(1), 0);
            LiftingWorkshop same = Check.with(wavelet, 1, 2, 3, 4, 5, 6, 7, 8);
            same.begin(8);
            Check.same("as long as before", Check.samples(same), "0 0 0 0 0 0 0 0");
        }
    }

    private static void beginReturnsLengthBefore() {
        Check.sentence("Promise 2", "Returns the length before.");
        Check.same("of a new object", new LiftingWorkshop().begin(32), 8);
        LiftingWorkshop x = Check.full(1, 32);
        Check.same("of a split signal", x.begin(32), 32);
        Check.same("the same length again", x.begin(4), 32);
        Check.same("shorter before", x.begin(16), 4);
    }

    private static void beginRefuses() {
        Check.sentence("Promise 2", "Throws `IllegalArgumentException` if length is none of these");
        int[] none = {0, 1, 2, 3, 5, 7, 9, 12, 15, 17, 24, 31, 33, 64, -4, -8, -16, -32, 1 << 30,
            MAX, MIN, MIN + 4, MIN + 8};
        Check.refuses(Check.ARGUMENT, LiftingWorkshop::new, (x, length) -> x.begin(length), none);
        Check.refuses(Check.ARGUMENT, () -> Check.full(2, 16), (x, length) -> x.begin(length), none);
    }

    private static void setSampleValues() {
        Check.sentence("Promise 3", "`value`: -1000 to 1000");
        for (int value : new int[] {-1000, -999, -1, 0, 1, 999, 1000}) {
            LiftingWorkshop x = new LiftingWorkshop();
            x.setSample(3, value);
            Check.same("the sample", x.sample(3), value);
        }
    }

    private static void setSampleSetsOne() {
        Check.sentence("Promise 3", "Sets a sample.");
        LiftingWorkshop x = Check.with(0, 1, 2, 3, 4);
        x.setSample(0, 9);
        Check.same("the first one", Check.samples(x), "9 2 3 4");
        x.setSample(3, -9);
        Check.same("the last one", Check.samples(x), "9 2 3 -9");
        Check.same("the root holds it", Check.numbers(x, 1), "9 2 3 -9");
    }

    private static void setSampleReturnsBefore() {
        Check.sentence("Promise 3", "Returns the sample before.");
        LiftingWorkshop x = new LiftingWorkshop();
        Check.same("of a new object", x.setSample(7, -1000), 0);
        Check.same("the same value again", x.setSample(7, -1000), -1000);
        Check.same("the least one", x.setSample(7, 5), -1000);
        x.setNumber(1, 7, -100000);
        Check.same("one that setSample cannot set", x.setSample(7, 1), -100000);
        Check.same("after that", x.sample(7), 1);
    }

    private static void setSamplePlaces() {
        Check.sentence("Promise 3",
                "Throws `IndexOutOfBoundsException` if there is no such place in the signal");
        for (int length : LENGTHS) {
            Check.refuses(Check.INDEX, () -> begun(length), (x, place) -> x.setSample(place, 1),
                    -1, length, length + 1, 2 * length, MAX, MIN);
        }
    }

    private static void setSampleRefusesValues() {
        Check.sentence("Promise 3", "Throws `IllegalArgumentException` if value is out of range");
        Check.refuses(Check.ARGUMENT, () -> Check.with(0, 1, 2, 3, 4),
                (x, value) -> x.setSample(3, value), 1001, -1001, 100000, MAX, MIN);
    }

    private static void setSampleRefusesSplitRoot() {
        Check.sentence("Promise 3", "Throws `IllegalStateException` if the root has children");
        Check.refuses(Check.STATE, () -> Check.split(Check.with(1, 1, 2, 3, 4), 1),
                (x, place) -> x.setSample(place, 1), 0, 1, 2, 3);
        Check.refuses(Check.STATE, () -> Check.full(0, 32), (x, place) -> x.setSample(place, 1),
                0, 15, 16, 31);
        LiftingWorkshop x = Check.full(0, 8);
        x.join(2);
        x.join(3);
        Check.refused("when it has two leaves", x, Check.STATE, () -> x.setSample(7, 1));
        x.join(1);
        Check.same("when it has none any more", x.setSample(7, 3), 482);
        LiftingWorkshop anew = Check.full(0, 8);
        anew.begin(8);
        Check.same("when the signal begins anew", anew.setSample(7, 3), 0);
    }

    private static void sampleOfTree() {
        Check.sentence("Promise 4", "what the root would hold if all nodes were joined.");
        for (int wavelet = 0; wavelet <= 2; wavelet++) {
            for (int length : LENGTHS) {
                LiftingWorkshop x = Check.full(wavelet, length);
                x.setNumber(x.leafAt(0), 0, 99999);
                x.setNumber(x.leafAt(x.leaves() - 1), 0, -100000);
                String told = Check.samples(x);
                Check.same("the tree stays", x.isLeaf(1) || x.isLeaf(2) || x.isLeaf(3), false);
                x.join(1);
                Check.same("wavelet " + wavelet + ", length " + length, told,
                        Check.numbers(x, 1));
            }
        }
        LiftingWorkshop leaf = Check.leaf(100000, 0, 0, -100000);
        Check.same("of a root without children", Check.samples(leaf), "100000 0 0 -100000");
    }

    private static void samplePlaces() {
        Check.sentence("Promise 4",
                "Throws `IndexOutOfBoundsException` if there is no such place in the signal");
        for (int length : LENGTHS) {
            int[] none = {-1, length, length + 1, 2 * length, MAX, MIN};
            Check.refuses(Check.INDEX, () -> begun(length), (x, place) -> x.sample(place), none);
            Check.refuses(Check.INDEX, () -> Check.full(2, length), (x, place) -> x.sample(place),
                    none);
            LiftingWorkshop x = Check.bands(0, 1, new int[length]);
            x.setNumber(3, length / 2 - 1, 8);
            Check.same("the last place of a split signal", x.sample(length - 1), 4);
        }
    }

    private static void lengthOfSignal() {
        Check.sentence("Promise 5", "Returns the length of the signal.");
        for (int length : LENGTHS) {
            Check.same("of a leaf", begun(length).length(), length);
            Check.same("of a full tree", Check.full(0, length).length(), length);
        }
    }

    private static void setWaveletValues() {
        Check.sentence("Promise 6", "`wavelet`: 0 to 2");
        for (int wavelet = 0; wavelet <= 2; wavelet++) {
            LiftingWorkshop x = new LiftingWorkshop();
            x.setWavelet(wavelet);
            Check.same("the wavelet", x.setWavelet(0), wavelet);
        }
    }

    private static void setWaveletChanges() {
        Check.sentence("Promise 6", "Changes the wavelet.");
        String[] due = {"50 0 | -100 0", "75 -12 | -50 0", "74 -8 | -49 14"};
        for (int wavelet = 0; wavelet <= 2; wavelet++) {
            LiftingWorkshop x = Check.with(0, 100, 0, 0, 0);
            x.setWavelet(wavelet);
            Check.same("the samples stay", Check.samples(x), "100 0 0 0");
            x.split(1);
            Check.same("a split with " + wavelet,
                    Check.numbers(x, 2) + " | " + Check.numbers(x, 3), due[wavelet]);
        }
    }

    private static void setWaveletReturnsBefore() {
        Check.sentence("Promise 6", "Returns the wavelet before.");
        LiftingWorkshop x = new LiftingWorkshop();
        Check.same("of a new object", x.setWavelet(0), 0);
        Check.same("the same again", x.setWavelet(2), 0);
        Check.same("the greatest", x.setWavelet(2), 2);
        Check.same("the greatest again", x.setWavelet(1), 2);
        x.begin(4);
        Check.same("after a new beginning", x.setWavelet(0), 1);
    }

    private static void setWaveletRefusesValues() {
        Check.sentence("Promise 6", "Throws `IllegalArgumentException` if wavelet is out of range");
        Check.refuses(Check.ARGUMENT, () -> Check.with(2, 1, 2, 3, 4),
                (x, wavelet) -> x.setWavelet(wavelet), -1, 3, 4, MAX, MIN);
    }

    private static void setWaveletRefusesSplitRoot() {
        Check.sentence("Promise 6", "Throws `IllegalStateException` if the root has children");
        for (int wavelet = 0; wavelet <= 2; wavelet++) {
            int used = wavelet;
            Check.refuses(Check.STATE, () -> Check.split(Check.with(used, 9, 2, 3, 4), 1),
                    (x, other) -> x.setWavelet(other), 0, 1, 2);
        }
        LiftingWorkshop x = Check.full(2, 8);
        x.join(1);
        Check.same("when it has none any more", x.setWavelet(0), 2);
        LiftingWorkshop anew = Check.full(1, 8);
        anew.begin(8);
        Check.same("when the signal begins anew", anew.setWavelet(0), 1);
    }

    private static LiftingWorkshop begun(int length) {
        LiftingWorkshop x = new LiftingWorkshop();
        x.begin(length);
        return x;
    }
}
