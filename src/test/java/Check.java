import java.io.IOException;
import java.nio.file.Files;
import java.nio.file.Path;

/** Counts what does not hold, and tells whether a refused call left an object as it was. */
final class Check {
    interface Call {
        void make();
    }

    interface Maker {
        LiftingWorkshop make();
    }

    interface CallWith {
        void make(LiftingWorkshop x, int argument);
    }

    static final Class<?> INDEX = IndexOutOfBoundsException.class;
    static final Class<?> ARGUMENT = IllegalArgumentException.class;
    static final Class<?> STATE = IllegalStateException.class;
    /** The lopsided tree has not these nodes. */
    static final int[] NONE_OF_LOPSIDED = {0, -1, 4, 5, 8, 9, 10, 11, 14, 15, 16, 24, 27, 1 << 30,
        Integer.MAX_VALUE, Integer.MIN_VALUE, Integer.MIN_VALUE + 2};
    /** These nodes of it are no leaves. */
    static final int[] PARENTS_OF_LOPSIDED = {1, 3, 6};
    private static final Path DOCUMENT = Path.of("../shared/DOC.md");

    private static final int MOST_CALLS = 512;

    private static int wrong = 0;
    private static String held = "";
    private static LiftingWorkshop lookedAt = null;
    private static int callsOfLooks = 0;

    private Check() {
    }

    /** From here on, what does not hold is told together with this sentence of the document. */
    static void sentence(String section, String words) {
        held = section + ", \"" + words + "\": ";
        if (!textOf(section).contains(words)) {
            report("the document has no such sentence there");
        }
    }

    /** A section of the document, with its heading. */
    static String textOf(String section) {
        String text;
        try {
            text = "\n" + Files.readString(DOCUMENT);
        } catch (IOException e) {
            return "";
        }
        for (String part : text.split("\n## ")) {
            if (part.startsWith(section + "\n") || part.startsWith(section + ":")) {
                return part;
            }
        }
        return "";
    }

    static void same(String what, long got, long due) {
        if (got != due) {
            report(what + " answered " + got + ", due is " + due);
        }
    }

    static void same(String what, boolean got, boolean due) {
        same(what, got ? 1 : 0, due ? 1 : 0);
    }

    static void same(String what, String got, String due) {
        if (!got.equals(due)) {
            report(what + " answered " + got + ", due is " + due);
        }
    }

    /** The call throws just this exception, and the object is the same before and after. */
    static void refused(String what, LiftingWorkshop x, Class<?> due, Call call) {
        String before = stateOf(x);
        refused(what, due, call);
        same(what + " leaves", stateOf(x), before);
    }

    /**
     * The call throws just this exception. To look at all of an object takes some fifty calls; so
     * where many calls are refused, the test looks at it once before them and once behind.
     */
    static void refused(String what, Class<?> due, Call call) {
        String thrown = "nothing";
        try {
            call.make();
        } catch (RuntimeException e) {
            thrown = e.getClass().getSimpleName();
        }
        same(what + " throws", thrown, due.getSimpleName());
    }

    /**
     * With each of these arguments the call throws just this exception, and the object is the same
     * as one that was made in the same way and not called. Each object is a new one, so that it
     * stays below the 512 calls that the document promises something for.
     */
    static void refuses(Class<?> due, Maker maker, CallWith call, int... arguments) {
        String untouched = wholeStateOf(maker.make());
        for (int argument : arguments) {
            LiftingWorkshop x = maker.make();
            String thrown = "nothing";
            try {
                call.make(x, argument);
            } catch (RuntimeException e) {
                thrown = e.getClass().getSimpleName();
            }
            same("with " + argument + " it throws", thrown, due.getSimpleName());
            same("with " + argument + " it leaves", wholeStateOf(x), untouched);
        }
    }

    static void report(String what) {
        wrong++;
        System.out.println(held + what);
    }

    static void end() {
        if (wrong > 0) {
            System.out.println(wrong + " answers are not as due");
            System.exit(1);
        }
    }

    static String stateOf(LiftingWorkshop x) {
        int length = x.length();
        StringBuilder state = new StringBuilder();
        state.append(length).append(':');
        if (length > 32) {
            return state.append(" no signal is so long").toString();
        }
        for (int place = 0; place < length; place++) {
            state.append(' ').append(x.sample(place));
        }
        int leaves = x.leaves();
        for (int leaf = 0; leaf < leaves; leaf++) {
            int node = x.leafAt(leaf);
            int size = x.sizeOf(node);
            state.append(" | ").append(node).append(':');
            for (int place = 0; place < size; place++) {
                state.append(' ').append(x.number(node, place));
            }
        }
        if (x.isLeaf(1)) {
            int wavelet = x.setWavelet(0);
            x.setWavelet(wavelet);
            state.append(" | wavelet ").append(wavelet);
        }
        countLook(x, 5 + 2 * length + 2 * leaves);
        return state.toString();
    }

    /** What an object answers after 512 calls is free, so no test may look at one so often. */
    private static void countLook(LiftingWorkshop x, int calls) {
        callsOfLooks = x == lookedAt ? callsOfLooks + calls : calls;
        lookedAt = x;
        if (callsOfLooks > MOST_CALLS) {
            report("to look at one object took more than " + MOST_CALLS + " calls");
        }
    }

    /** Joins the tree in the end: the wavelet of a split one cannot be asked for. */
    private static String wholeStateOf(LiftingWorkshop x) {
        String state = stateOf(x);
        if (!x.isLeaf(1)) {
            x.join(1);
        }
        return state + " | last wavelet " + x.setWavelet(0);
    }

    /** A new object with these samples and this wavelet. */
    static LiftingWorkshop with(int wavelet, int... samples) {
        LiftingWorkshop x = new LiftingWorkshop();
        x.begin(samples.length);
        x.setWavelet(wavelet);
        for (int place = 0; place < samples.length; place++) {
            x.setSample(place, samples[place]);
        }
        return x;
    }

    /** Splits these nodes, one after the other. */
    static LiftingWorkshop split(LiftingWorkshop x, int... nodes) {
        for (int node : nodes) {
            x.split(node);
        }
        return x;
    }

    /** A tree that is split wherever it can be, of samples of which no two are alike. */
    static LiftingWorkshop full(int wavelet, int length) {
        int[] samples = new int[length];
        for (int place = 0; place < length; place++) {
            samples[place] = (place * 739 + 311) % 2001 - 1000;
        }
        LiftingWorkshop x = with(wavelet, samples);
        for (int node = 1; node < (length == 4 ? 4 : 8); node++) {
            x.split(node);
        }
        return x;
    }

    /** A tree that is no pyramid: its leaves are 2, 12, 13 and 7. */
    static LiftingWorkshop lopsided() {
        return split(with(1, 5, -2, 7, 8, 0, 0, 0, 3), 1, 3, 6);
    }

    /** A leaf with these numbers, as the root of a new object. */
    static LiftingWorkshop leaf(int... numbers) {
        return bands(0, 0, numbers);
    }

    /** A pyramid of so many splits, with these numbers in the order of the leaves. */
    static LiftingWorkshop bands(int wavelet, int splits, int... row) {
        LiftingWorkshop x = new LiftingWorkshop();
        x.begin(row.length);
        x.setWavelet(wavelet);
        int node = 1;
        for (int split = 0; split < splits; split++) {
            x.split(node);
            node *= 2;
        }
        int place = 0;
        for (int leaf = 0; leaf < x.leaves(); leaf++) {
            int size = x.sizeOf(x.leafAt(leaf));
            for (int k = 0; k < size; k++) {
                x.setNumber(x.leafAt(leaf), k, row[place]);
                place++;
            }
        }
        return x;
    }

    static String numbers(LiftingWorkshop x, int node) {
        StringBuilder text = new StringBuilder();
        for (int place = 0; place < x.sizeOf(node); place++) {
            text.append(place == 0 ? "" : " ").append(x.number(node, place));
        }
        return text.toString();
    }

    static String samples(LiftingWorkshop x) {
        StringBuilder text = new StringBuilder();
        for (int place = 0; place < x.length(); place++) {
            text.append(place == 0 ? "" : " ").append(x.sample(place));
        }
        return text.toString();
    }

    static String leaves(LiftingWorkshop x) {
        StringBuilder text = new StringBuilder();
        for (int place = 0; place < x.leaves(); place++) {
            text.append(place == 0 ? "" : " ").append(x.leafAt(place));
        }
        return text.toString();
    }

    static String code(LiftingWorkshop x) {
        StringBuilder text = new StringBuilder();
        for (int place = 0; place < x.bits(); place++) {
            text.append(x.bitAt(place));
        }
        return text.toString();
    }

    static String broughtBack(LiftingWorkshop x, int bits) {
        StringBuilder text = new StringBuilder();
        for (int place = 0; place < x.length(); place++) {
            text.append(place == 0 ? "" : " ").append(x.broughtBack(bits, place));
        }
        return text.toString();
    }
}
