/** Promises 1 to 6: the signal. */
public final class SignalTest {
    private static final Class<?> INDEX = IndexOutOfBoundsException.class;
    private static final Class<?> ARGUMENT = IllegalArgumentException.class;
    private static final Class<?> STATE = IllegalStateException.class;

    public static void main(String[] args) {
        promise1NewObject();
        promise2Begin();
        promise3SetSample();
        promise4Sample();
        promise5Length();
        promise6SetWavelet();
        Check.end();
    }

    private static void promise1NewObject() {
        LiftingWorkshop x = new LiftingWorkshop();
        Check.same("1: a new object", Check.stateOf(x),
                "8: 0 0 0 0 0 0 0 0 | 1: 0 0 0 0 0 0 0 0 | wavelet 0");
    }

    private static void promise2Begin() {
        LiftingWorkshop x = new LiftingWorkshop();
        int before = 8;
        for (int length : new int[] {32, 4, 16, 8, 8}) {
            Check.same("2: begin", x.begin(length), before);
            Check.same("2: length", x.length(), length);
            Check.same("2: size of the root", x.sizeOf(1), length);
            before = length;
        }
        String untouched = Check.stateOf(x);
        for (int length : new int[] {0, 1, 2, 3, 5, 6, 7, 12, 31, 33, 64, -4, -8,
                Integer.MAX_VALUE, Integer.MIN_VALUE}) {
            Check.refused("2: begin(" + length + ")", ARGUMENT, () -> x.begin(length));
        }
        Check.same("2: refused calls leave", Check.stateOf(x), untouched);
        LiftingWorkshop y = Check.with(1, 1, 2, 3, 4, 5, 6, 7, 8);
        y.split(1);
        y.split(3);
        Check.refused("2: begin(6) of a split tree", y, ARGUMENT, () -> y.begin(6));
        Check.same("2: begin of a split tree", y.begin(4), 8);
        Check.same("2: all is 0, the wavelet stays", Check.stateOf(y),
                "4: 0 0 0 0 | 1: 0 0 0 0 | wavelet 1");
        y.begin(32);
        for (int place = 0; place < 32; place++) {
            y.setSample(place, place);
        }
        y.begin(4);
        y.begin(32);
        Check.same("2: nothing of an earlier signal is left", y.costOf(1), 0);
    }

    private static void promise3SetSample() {
        LiftingWorkshop x = new LiftingWorkshop();
        Check.same("3: setSample", x.setSample(0, 1000), 0);
        Check.same("3: setSample again", x.setSample(0, -1000), 1000);
        Check.same("3: setSample a third time", x.setSample(0, 0), -1000);
        Check.same("3: setSample, the last place", x.setSample(7, 5), 0);
        Check.same("3: samples", Check.samples(x), "0 0 0 0 0 0 0 5");
        Check.same("3: the root holds it", x.number(1, 7), 5);
        x.setNumber(1, 3, 100000);
        Check.same("3: the sample before may be greater", x.setSample(3, 1), 100000);
        String untouched = Check.stateOf(x);
        for (int place : new int[] {-1, 8, 32, Integer.MAX_VALUE, Integer.MIN_VALUE}) {
            Check.refused("3: place " + place, INDEX, () -> x.setSample(place, 1));
            Check.refused("3: place first", INDEX, () -> x.setSample(place, 1001));
        }
        for (int value : new int[] {1001, -1001, Integer.MAX_VALUE, Integer.MIN_VALUE}) {
            Check.refused("3: value " + value, ARGUMENT, () -> x.setSample(0, value));
        }
        Check.same("3: refused calls leave", Check.stateOf(x), untouched);
        x.split(1);
        untouched = Check.stateOf(x);
        Check.refused("3: split root", STATE, () -> x.setSample(0, 1));
        Check.refused("3: split root, value first", ARGUMENT, () -> x.setSample(0, 1001));
        Check.refused("3: split root, place first", INDEX, () -> x.setSample(8, 1001));
        Check.same("3: refused calls leave the bands", Check.stateOf(x), untouched);
        x.join(1);
        Check.same("3: after a join", x.setSample(7, 6), 5);
        x.begin(4);
        Check.refused("3: place 4 of 4", INDEX, () -> x.setSample(4, 1));
    }

    private static void promise4Sample() {
        for (int wavelet = 0; wavelet <= 2; wavelet++) {
            LiftingWorkshop x = Check.with(wavelet, 1000, -1000, 3, 77, 1, 0, 0, -5);
            String due = "1000 -1000 3 77 1 0 0 -5";
            Check.same("4: samples", Check.samples(x), due);
            for (int node = 1; node < 8; node++) {
                x.split(node);
                Check.same("4: samples after split " + node, Check.samples(x), due);
            }
            Check.same("4: the tree stays", Check.leaves(x), "8 9 10 11 12 13 14 15");
        }
        LiftingWorkshop x = Check.with(0, 5, -2, 7, 8);
        x.split(1);
        x.setNumber(3, 0, 0);
        Check.same("4: after an edit", Check.samples(x), "1 1 7 8");
        String untouched = Check.stateOf(x);
        for (int place : new int[] {-1, 4, 8, Integer.MAX_VALUE, Integer.MIN_VALUE}) {
            Check.refused("4: sample " + place, INDEX, () -> x.sample(place));
        }
        Check.same("4: refused calls leave", Check.stateOf(x), untouched);
    }

    private static void promise5Length() {
        LiftingWorkshop x = new LiftingWorkshop();
        Check.same("5: length at first", x.length(), 8);
        x.begin(16);
        Check.same("5: length", x.length(), 16);
        x.split(1);
        Check.same("5: length of a split signal", x.length(), 16);
    }

    private static void promise6SetWavelet() {
        LiftingWorkshop x = new LiftingWorkshop();
        Check.same("6: setWavelet", x.setWavelet(2), 0);
        Check.same("6: setWavelet again", x.setWavelet(1), 2);
        Check.same("6: setWavelet the same", x.setWavelet(1), 1);
        Check.same("6: setWavelet back", x.setWavelet(0), 1);
        x.setWavelet(2);
        String untouched = Check.stateOf(x);
        for (int wavelet : new int[] {-1, 3, Integer.MAX_VALUE, Integer.MIN_VALUE}) {
            Check.refused("6: wavelet " + wavelet, ARGUMENT, () -> x.setWavelet(wavelet));
        }
        Check.same("6: refused calls leave", Check.stateOf(x), untouched);
        x.split(1);
        untouched = Check.stateOf(x);
        Check.refused("6: split root", STATE, () -> x.setWavelet(2));
        Check.refused("6: split root, other wavelet", STATE, () -> x.setWavelet(0));
        Check.refused("6: split root, wavelet first", ARGUMENT, () -> x.setWavelet(3));
        Check.same("6: refused calls leave the bands", Check.stateOf(x), untouched);
        x.join(1);
        Check.same("6: the wavelet stayed", x.setWavelet(0), 2);
    }
}
