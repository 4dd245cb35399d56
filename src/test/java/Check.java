/** Counts what does not hold, and tells whether a refused call left an object as it was. */
final class Check {
    interface Call {
        void make();
    }

    private static int wrong = 0;

    private Check() {
    }

    static void same(String what, long got, long due) {
        if (got != due) {
            report(what + " answered " + got + ", due is " + due);
        }
    }

    static void same(String what, boolean got, boolean due) {
        same(what, got ? 1 : 0, due ? 1 : 0);
    }

    static void same(String what, String got, String due) {
        if (!got.equals(due)) {
            report(what + " answered " + got + ", due is " + due);
        }
    }

    /** The call throws just this exception, and the object is the same before and after. */
    static void refused(String what, LiftingWorkshop x, Class<?> due, Call call) {
        String before = stateOf(x);
        String thrown = "nothing";
        try {
            call.make();
        } catch (RuntimeException e) {
            thrown = e.getClass().getSimpleName();
        }
        same(what + " throws", thrown, due.getSimpleName());
        same(what + " leaves", stateOf(x), before);
    }

    static void report(String what) {
        wrong++;
        System.out.println(what);
    }

    static void end() {
        if (wrong > 0) {
            System.out.println(wrong + " answers are not as due");
            System.exit(1);
        }
    }

    static String stateOf(LiftingWorkshop x) {
        StringBuilder state = new StringBuilder();
        state.append(x.length()).append(':');
        for (int place = 0; place < x.length(); place++) {
            state.append(' ').append(x.sample(place));
        }
        for (int leaf = 0; leaf < x.leaves(); leaf++) {
            int node = x.leafAt(leaf);
            state.append(" | ").append(node).append(':');
            for (int place = 0; place < x.sizeOf(node); place++) {
                state.append(' ').append(x.number(node, place));
            }
        }
        if (x.isLeaf(1)) {
            int wavelet = x.setWavelet(0);
            x.setWavelet(wavelet);
            state.append(" | wavelet ").append(wavelet);
        }
        return state.toString();
    }

    /** A new object with these samples and this wavelet. */
    static LiftingWorkshop with(int wavelet, int... samples) {
        LiftingWorkshop x = new LiftingWorkshop();
        x.begin(samples.length);
        x.setWavelet(wavelet);
        for (int place = 0; place < samples.length; place++) {
            x.setSample(place, samples[place]);
        }
        return x;
    }

    static String numbers(LiftingWorkshop x, int node) {
        StringBuilder text = new StringBuilder();
        for (int place = 0; place < x.sizeOf(node); place++) {
            text.append(place == 0 ? "" : " ").append(x.number(node, place));
        }
        return text.toString();
    }

    static String samples(LiftingWorkshop x) {
        StringBuilder text = new StringBuilder();
        for (int place = 0; place < x.length(); place++) {
            text.append(place == 0 ? "" : " ").append(x.sample(place));
        }
        return text.toString();
    }

    static String leaves(LiftingWorkshop x) {
        StringBuilder text = new StringBuilder();
        for (int place = 0; place < x.leaves(); place++) {
            text.append(place == 0 ? "" : " ").append(x.leafAt(place));
        }
        return text.toString();
    }

    static String code(LiftingWorkshop x) {
        StringBuilder text = new StringBuilder();
        for (int place = 0; place < x.bits(); place++) {
            text.append(x.bitAt(place));
        }
        return text.toString();
    }

    static String broughtBack(LiftingWorkshop x, int bits) {
        StringBuilder text = new StringBuilder();
        for (int place = 0; place < x.length(); place++) {
            text.append(place == 0 ? "" : " ").append(x.broughtBack(bits, place));
        }
        return text.toString();
    }
}
