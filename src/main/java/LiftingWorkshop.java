/**
 * A workshop of wavelets that are made of lifting steps in whole numbers: a signal is split into a
 * tree of bands, the tree is chosen by the cost of its numbers, bands are edited and thresholded,
 * and the numbers are coded into bits that may be cut anywhere.
 *
 * All numbers stand in one row that is as long as the signal. The two bands of a node lie side by
 * side where the node lay, the low one first. So the leaves below a node are one stretch of the
 * row, the leaves stand in the order of the tree, and the row of a pyramid is already in the order
 * in which it is coded.
 */
public final class LiftingWorkshop {
    private static final int ROOT = 1;
    /** Nodes from this number on are never split. */
    private static final int FIRST_UNSPLIT = 8;
    private static final int NODES = 16;
    private static final int DEEPEST_LEVEL = 3;
    private static final int FIRST_LENGTH = 8;
    private static final int GREATEST_LENGTH = 32;
    private static final int GREATEST_SAMPLE = 1000;
    private static final int GREATEST_NUMBER = 100000;
    private static final int GREATEST_THRESHOLD = 100000;
    private static final int GREATEST_NOISE = 1000;
    /** No number of 64 bits has a size with more binary digits. */
    private static final int MOST_DIGITS = 63;
    private static final int HAAR = 0;
    private static final int FIVE_THREE = 1;
    private static final int NINE_SEVEN = 2;

    private final Tree tree = new Tree();
    private final Lifting lifting = new Lifting();
    private final Row numbers = new Row();
    private final Code code = new Code();
    /** What the root would hold if all nodes were joined. */
    private final Row samples = new Row();
    /** What the numbers count as after some bits of the code, before and after they are joined. */
    private final Row told = new Row();
    private final Row brought = new Row();
    /** For chooseBasis: what each node costs as a leaf. */
    private final int[] costAsLeaf = new int[FIRST_UNSPLIT];

    public LiftingWorkshop() {
    }

    // ---- the signal

    public int begin(int length) throws IllegalArgumentException {
        if (length != 4 && length != 8 && length != 16 && length != 32) {
            throw new IllegalArgumentException("a signal has 4, 8, 16 or 32 samples");
        }
        int before = tree.width();
        tree.plant(length);
        numbers.clear();
        return before;
    }

    public long setSample(int place, int value)
            throws IndexOutOfBoundsException, IllegalArgumentException, IllegalStateException {
        requirePlaceInSignal(place);
        if (value < -GREATEST_SAMPLE || value > GREATEST_SAMPLE) {
            throw new IllegalArgumentException("a sample is -1000 to 1000");
        }
        requireUnsplitRoot();
        long before = numbers.get(place);
        numbers.set(place, value);
        return before;
    }

    public long sample(int place) throws IndexOutOfBoundsException {
        requirePlaceInSignal(place);
        gatherSamples();
        return samples.get(place);
    }

    public int length() {
        return tree.width();
    }

    public int setWavelet(int wavelet) throws IllegalArgumentException, IllegalStateException {
        if (wavelet < HAAR || wavelet > NINE_SEVEN) {
            throw new IllegalArgumentException("a wavelet is 0 to 2");
        }
        requireUnsplitRoot();
        int before = lifting.wavelet();
        lifting.use(wavelet);
        return before;
    }

    // ---- the tree

    public int split(int node) throws IndexOutOfBoundsException, IllegalStateException {
        requireNode(node);
        if (!tree.canBeSplit(node)) {
            throw new IllegalStateException("the node cannot be split");
        }
        splitLeaf(node);
        return tree.widthOf(node) / 2;
    }

    public int join(int node) throws IndexOutOfBoundsException, IllegalStateException {
        requireNode(node);
        if (!tree.hasChildren(node)) {
            throw new IllegalStateException("the node has no children");
        }
        return joinBranch(node);
    }

    public boolean isNode(int node) {
        return tree.exists(node);
    }

    public boolean isLeaf(int node) throws IndexOutOfBoundsException {
        requireNode(node);
        return !tree.hasChildren(node);
    }

    public int leaves() {
        return tree.leafCount();
    }

    public int leafAt(int place) throws IndexOutOfBoundsException {
        if (place < 0 || place >= tree.leafCount()) {
            throw new IndexOutOfBoundsException("there are not so many leaves");
        }
        int position = 0;
        for (int passed = 0; passed < place; passed++) {
            position += tree.widthOf(tree.leafOver(position));
        }
        return tree.leafOver(position);
    }

    public int costOf(int node) throws IndexOutOfBoundsException {
        requireNode(node);
        return branchCost(node);
    }

    public int chooseBasis(int levels) throws IllegalArgumentException {
        if (levels < 1 || levels > DEEPEST_LEVEL) {
            throw new IllegalArgumentException("levels are 1 to 3");
        }
        joinBranch(ROOT);
        splitNodesBelow(1 << levels);
        joinWhereLeafCostsNoMore();
        return branchCost(ROOT);
    }

    // ---- numbers of leaves

    public int sizeOf(int node) throws IndexOutOfBoundsException, IllegalStateException {
        requireNode(node);
        requireLeaf(node);
        return tree.widthOf(node);
    }

    public long number(int node, int place)
            throws IndexOutOfBoundsException, IllegalStateException {
        requireNode(node);
        requireLeaf(node);
        requirePlaceBelow(place, tree.widthOf(node));
        return numbers.get(tree.startOf(node) + place);
    }

    public long setNumber(int node, int place, int value)
            throws IndexOutOfBoundsException, IllegalStateException, IllegalArgumentException {
        requireNode(node);
        requireLeaf(node);
        requirePlaceBelow(place, tree.widthOf(node));
        if (value < -GREATEST_NUMBER || value > GREATEST_NUMBER) {
            throw new IllegalArgumentException("a number is set to -100000 to 100000");
        }
        int position = tree.startOf(node) + place;
        long before = numbers.get(position);
        numbers.set(position, value);
        return before;
    }

    public long filtered(int node, int k) throws IndexOutOfBoundsException, IllegalStateException {
        requireNode(node);
        requireLeaf(node);
        int half = tree.widthOf(node) / 2;
        requirePlaceBelow(k, half);
        if (lifting.wavelet() == NINE_SEVEN) {
            throw new IllegalStateException("the wavelet 2 has no filter here");
        }
        int even = tree.startOf(node) + 2 * k;
        if (lifting.wavelet() == HAAR) {
            return numbers.get(even + 1) - numbers.get(even);
        }
        int nextEven = k + 1 < half ? even + 2 : even;
        long twice = 2 * numbers.get(even + 1) - numbers.get(even) - numbers.get(nextEven);
        return (twice + 1) >> 1;
    }

    // ---- thresholds

    public int hard(int node, int threshold)
            throws IndexOutOfBoundsException, IllegalArgumentException, IllegalStateException {
        requireNode(node);
        requireThreshold(threshold);
        requireLeaf(node);
        return zeroUpTo(node, threshold, 0);
    }

    public int soft(int node, int threshold)
            throws IndexOutOfBoundsException, IllegalArgumentException, IllegalStateException {
        requireNode(node);
        requireThreshold(threshold);
        requireLeaf(node);
        return zeroUpTo(node, threshold, threshold);
    }

    public long risk(int node, int noise, int threshold)
            throws IndexOutOfBoundsException, IllegalArgumentException, IllegalStateException {
        requireNode(node);
        requireNoise(noise);
        requireThreshold(threshold);
        requireLeaf(node);
        return softRisk(node, noise, threshold);
    }

    public long bestThreshold(int node, int noise)
            throws IndexOutOfBoundsException, IllegalArgumentException, IllegalStateException {
        requireNode(node);
        requireNoise(noise);
        requireLeaf(node);
        long best = 0;
        long leastRisk = softRisk(node, noise, 0);
        int end = tree.startOf(node) + tree.widthOf(node);
        for (int position = tree.startOf(node); position < end; position++) {
            long candidate = numbers.magnitude(position);
            if (candidate <= GREATEST_THRESHOLD) {
                long candidateRisk = softRisk(node, noise, candidate);
                if (candidateRisk < leastRisk
                        || (candidateRisk == leastRisk && candidate < best)) {
                    best = candidate;
                    leastRisk = candidateRisk;
                }
            }
        }
        return best;
    }

    // ---- bits

    public boolean isPyramid() {
        for (int high = 2 * ROOT + 1; high < FIRST_UNSPLIT; high += 2) {
            if (tree.hasChildren(high)) {
                return false;
            }
        }
        return true;
    }

    public int bits() throws IllegalStateException {
        requirePyramid();
        encode();
        return code.count();
    }

    public int bitAt(int place) throws IllegalStateException, IndexOutOfBoundsException {
        requirePyramid();
        encode();
        if (place < 0 || place >= code.count()) {
            throw new IndexOutOfBoundsException("there are not so many bits");
        }
        return code.bit(place);
    }

    public long broughtBack(int bits, int place)
            throws IllegalStateException, IllegalArgumentException, IndexOutOfBoundsException {
        requirePyramid();
        requireNotNegative(bits);
        requirePlaceInSignal(place);
        encode();
        readFirst(bits);
        bringBack();
        return brought.get(place);
    }

    public long errorWith(int bits) throws IllegalStateException, IllegalArgumentException {
        requirePyramid();
        requireNotNegative(bits);
        encode();
        gatherSamples();
        readFirst(bits);
        bringBack();
        return errorOfBrought();
    }

    public int bitsFor(int error) throws IllegalStateException, IllegalArgumentException {
        requirePyramid();
        requireNotNegative(error);
        encode();
        gatherSamples();
        readFirst(0);
        bringBack();
        long reached = errorOfBrought();
        int read = 0;
        // More bits may bring a greater error, so no number of bits can be skipped.
        while (read < code.count() && reached > error) {
            if (code.tell(read, told)) {
                bringBack();
                reached = errorOfBrought();
            }
            read++;
        }
        return read;
    }

    // ---- what the calls require

    private void requireNode(int node) {
        if (!tree.exists(node)) {
            throw new IndexOutOfBoundsException("there is no such node");
        }
    }

    private void requireLeaf(int node) {
        if (tree.hasChildren(node)) {
            throw new IllegalStateException("the node is no leaf");
        }
    }

    private void requireUnsplitRoot() {
        if (tree.hasChildren(ROOT)) {
            throw new IllegalStateException("the root has children");
        }
    }

    private void requirePyramid() {
        if (!isPyramid()) {
            throw new IllegalStateException("the tree is no pyramid");
        }
    }

    private void requirePlaceInSignal(int place) {
        requirePlaceBelow(place, tree.width());
    }

    private void requirePlaceBelow(int place, int end) {
        if (place < 0 || place >= end) {
            throw new IndexOutOfBoundsException("there is no such place");
        }
    }

    private void requireThreshold(int threshold) {
        if (threshold < 0 || threshold > GREATEST_THRESHOLD) {
            throw new IllegalArgumentException("a threshold is 0 to 100000");
        }
    }

    private void requireNoise(int noise) {
        if (noise < 0 || noise > GREATEST_NOISE) {
            throw new IllegalArgumentException("a noise is 0 to 1000");
        }
    }

    private void requireNotNegative(int value) {
        if (value < 0) {
            throw new IllegalArgumentException("a number of bits, or an error, is 0 or more");
        }
    }

    // ---- how the tree is split, joined and chosen

    private void splitLeaf(int node) {
        lifting.divide(numbers, tree.startOf(node), tree.widthOf(node) / 2);
        tree.giveChildren(node);
    }

    private int joinBranch(int node) {
        int joined = uniteBranch(numbers, node);
        tree.takeChildren(node);
        return joined;
    }

    /** Joins the numbers of a row as the nodes of a branch tell; the tree itself stays. */
    private int uniteBranch(Row row, int top) {
        int joined = 0;
        // Children have greater numbers than their parents, so they are joined before them.
        for (int node = FIRST_UNSPLIT - 1; node >= ROOT; node--) {
            if (tree.hasChildren(node) && tree.isWithin(node, top)) {
                lifting.unite(row, tree.startOf(node), tree.widthOf(node) / 2);
                joined++;
            }
        }
        return joined;
    }

    private void splitNodesBelow(int firstKept) {
        for (int node = ROOT; node < firstKept && node < costAsLeaf.length; node++) {
            if (tree.exists(node)) {
                costAsLeaf[node] = branchCost(node);
                if (tree.canBeSplit(node)) {
                    splitLeaf(node);
                }
            }
        }
    }

    private void joinWhereLeafCostsNoMore() {
        // Upwards: when a node is looked at, the branches below it are already the best ones.
        for (int node = costAsLeaf.length - 1; node >= ROOT; node--) {
            if (tree.hasChildren(node) && costAsLeaf[node] <= branchCost(node)) {
                joinBranch(node);
            }
        }
    }

    private int branchCost(int node) {
        int cost = 0;
        int end = tree.startOf(node) + tree.widthOf(node);
        for (int position = tree.startOf(node); position < end; position++) {
            cost += digits(numbers.magnitude(position));
        }
        return cost;
    }

    private static int digits(long size) {
        int digits = 0;
        while (digits < MOST_DIGITS && size >> digits != 0) {
            digits++;
        }
        return digits;
    }

    private void gatherSamples() {
        samples.copy(numbers);
        uniteBranch(samples, ROOT);
    }

    // ---- how thresholds work

    /** Makes small numbers 0 and brings the others nearer to 0; tells how many became 0. */
    private int zeroUpTo(int node, int threshold, int nearer) {
        int zeroed = 0;
        int end = tree.startOf(node) + tree.widthOf(node);
        for (int position = tree.startOf(node); position < end; position++) {
            long number = numbers.get(position);
            if (numbers.magnitude(position) > threshold) {
                numbers.set(position, number < 0 ? number + nearer : number - nearer);
            } else if (number != 0) {
                numbers.set(position, 0);
                zeroed++;
            }
        }
        return zeroed;
    }

    private long softRisk(int node, int noise, long threshold) {
        long variance = (long) noise * noise;
        long risk = tree.widthOf(node) * variance;
        int end = tree.startOf(node) + tree.widthOf(node);
        for (int position = tree.startOf(node); position < end; position++) {
            long size = numbers.magnitude(position);
            long lesser = Math.min(size, threshold);
            risk += lesser * lesser;
            if (size <= threshold) {
                risk -= 2 * variance;
            }
        }
        return risk;
    }

    // ---- how bits bring samples back

    private void encode() {
        code.write(numbers, tree.width(), tree.widthOf(tree.leafOver(0)));
    }

    private void readFirst(int bits) {
        told.clear();
        for (int position = 0; position < bits && position < code.count(); position++) {
            code.tell(position, told);
        }
    }

    private void bringBack() {
        brought.copy(told);
        uniteBranch(brought, ROOT);
    }

    private long errorOfBrought() {
        long error = 0;
        for (int place = 0; place < tree.width(); place++) {
            error += Math.abs(brought.get(place) - samples.get(place));
        }
        return error;
    }

    /** A row of numbers that is long enough for every signal. */
    private static final class Row {
        private final long[] cells = new long[GREATEST_LENGTH];

        long get(int position) {
            return position >= 0 && position < cells.length ? cells[position] : 0;
        }

        void set(int position, long number) {
            if (position >= 0 && position < cells.length) {
                cells[position] = number;
            }
        }

        long magnitude(int position) {
            return Math.abs(get(position));
        }

        void clear() {
            for (int position = 0; position < cells.length; position++) {
                cells[position] = 0;
            }
        }

        void copy(Row other) {
            for (int position = 0; position < cells.length; position++) {
                cells[position] = other.get(position);
            }
        }
    }

    /** Which nodes there are, and which stretch of the row each one has. */
    private static final class Tree {
        private final boolean[] parents = new boolean[FIRST_UNSPLIT];
        private int width = FIRST_LENGTH;

        /** How long the row is. */
        int width() {
            return width;
        }

        void plant(int newWidth) {
            width = newWidth;
            takeChildren(ROOT);
        }

        boolean exists(int node) {
            return node == ROOT || (node > ROOT && node < NODES && hasChildren(node / 2));
        }

        boolean hasChildren(int node) {
            return node >= 0 && node < parents.length && parents[node];
        }

        boolean canBeSplit(int node) {
            return exists(node) && !hasChildren(node) && node < FIRST_UNSPLIT && widthOf(node) >= 2;
        }

        void giveChildren(int node) {
            if (node >= 0 && node < parents.length) {
                parents[node] = true;
            }
        }

        /** Makes a node a leaf. */
        void takeChildren(int top) {
            for (int node = ROOT; node < parents.length; node++) {
                if (isWithin(node, top)) {
                    parents[node] = false;
                }
            }
        }

        /** Whether a node is the top of a branch, or stands below it. */
        boolean isWithin(int node, int top) {
            int down = levelOf(node) - levelOf(top);
            return down >= 0 && node >> down == top;
        }

        int levelOf(int node) {
            if (node < 2) {
                return 0;
            }
            if (node < 4) {
                return 1;
            }
            return node < 8 ? 2 : DEEPEST_LEVEL;
        }

        int widthOf(int node) {
            return width >> levelOf(node);
        }

        int startOf(int node) {
            return (node - (1 << levelOf(node))) * widthOf(node);
        }

        /** The leaf that has a position of the row. */
        int leafOver(int position) {
            int node = ROOT;
            for (int level = 0; level < DEEPEST_LEVEL && hasChildren(node); level++) {
                int high = 2 * node + 1;
                node = position < startOf(high) ? 2 * node : high;
            }
            return node;
        }

        int leafCount() {
            // Each split makes one leaf more.
            int count = 1;
            for (int node = ROOT; node < parents.length; node++) {
                if (parents[node]) {
                    count++;
                }
            }
            return count;
        }
    }

    /**
     * The lifting steps of the wavelets, done and taken back on stretches of rows. The divisors are
     * powers of 2, and a shift to the right rounds down below 0, too.
     */
    private static final class Lifting {
        private final Row mixed = new Row();
        private int wavelet = HAAR;

        int wavelet() {
            return wavelet;
        }

        void use(int newWavelet) {
            wavelet = newWavelet;
        }

        /** Splits the stretch from start on, twice half long, into its low and its high band. */
        void divide(Row row, int start, int half) {
            mixed.copy(row);
            for (int k = 0; k < half; k++) {
                row.set(start + k, mixed.get(start + 2 * k));
                row.set(start + half + k, mixed.get(start + 2 * k + 1));
            }
            for (int step = 0; step < steps(); step++) {
                lift(row, start, half, step, 1);
            }
        }

        /** Takes back what divide does. */
        void unite(Row row, int start, int half) {
            for (int step = steps() - 1; step >= 0; step--) {
                lift(row, start, half, step, -1);
            }
            mixed.copy(row);
            for (int k = 0; k < half; k++) {
                row.set(start + 2 * k, mixed.get(start + k));
                row.set(start + 2 * k + 1, mixed.get(start + half + k));
            }
        }

        private int steps() {
            return wavelet == NINE_SEVEN ? 4 : 2;
        }

        /** Does a step, or takes it back if the sign is -1; odds and evens change by turns. */
        private void lift(Row row, int start, int half, int step, int sign) {
            int odds = start + half;
            for (int k = 0; k < half; k++) {
                if (step % 2 == 0) {
                    int next = k + 1 < half ? k + 1 : half - 1;
                    long change = oddChange(step, row.get(start + k), row.get(start + next));
                    row.set(odds + k, row.get(odds + k) + sign * change);
                } else {
                    int last = k > 0 ? k - 1 : 0;
                    long change = evenChange(step, row.get(odds + last), row.get(odds + k));
                    row.set(start + k, row.get(start + k) + sign * change);
                }
            }
        }

        private long oddChange(int step, long here, long next) {
            if (wavelet == HAAR) {
                return -here;
            }
            if (wavelet == FIVE_THREE) {
                return -((here + next) >> 1);
            }
            long factor = step == 0 ? -6497 : 3616;
            return (factor * (here + next) + 2048) >> 12;
        }

        private long evenChange(int step, long last, long here) {
            if (wavelet == HAAR) {
                return here >> 1;
            }
            if (wavelet == FIVE_THREE) {
                return (last + here + 2) >> 2;
            }
            long factor = step == 1 ? -217 : 1817;
            return (factor * (last + here) + 2048) >> 12;
        }
    }

    /** The bits of a pyramid's row, and what each of them tells. */
    private static final class Code {
        private static final int HEAD_BITS = 6;
        /** In a plane no number writes more than two bits. */
        private static final int MOST_BITS = HEAD_BITS + MOST_DIGITS * 2 * GREATEST_LENGTH;
        private static final int NO_PLACE = -1;

        /** The numbers as they were when the code was written. */
        private final Row row = new Row();
        /** For each place the greatest size at the place and at its descendants. */
        private final Row reach = new Row();
        private final byte[] bits = new byte[MOST_BITS];
        /** For each bit the place whose number is known down to a plane with it, and the plane. */
        private final byte[] toldPlaces = new byte[MOST_BITS];
        private final byte[] toldPlanes = new byte[MOST_BITS];
        private int count;
        private int length;
        private int lowLength;

        int count() {
            return count;
        }

        int bit(int position) {
            return position >= 0 && position < count && position < MOST_BITS ? bits[position] : 0;
        }

        /** Writes the code of a row, whose first numbers are the leaf of low bands alone. */
        void write(Row numbers, int newLength, int newLowLength) {
            row.copy(numbers);
            length = newLength;
            lowLength = newLowLength;
            count = 0;
            int planes = digits(measureReach());
            for (int digit = HEAD_BITS - 1; digit >= 0; digit--) {
                put(planes >> digit & 1);
            }
            for (int plane = planes - 1; plane >= 0; plane--) {
                writeFirstPass(plane);
                writeSecondPass(plane);
            }
        }

        /** Lets a row know what a bit tells; answers whether it told anything. */
        boolean tell(int position, Row listener) {
            if (position < 0 || position >= count || position >= MOST_BITS) {
                return false;
            }
            int place = toldPlaces[position];
            if (place == NO_PLACE) {
                return false;
            }
            listener.set(place, knownDownTo(place, toldPlanes[position]));
            return true;
        }

        private long knownDownTo(int place, int plane) {
            long size = row.magnitude(place) >> plane << plane;
            if (plane > 0) {
                size += 1L << (plane - 1);
            }
            return row.get(place) < 0 ? -size : size;
        }

        /** Fills the reach of all places and answers the greatest size in the row. */
        private long measureReach() {
            long greatest = 0;
            for (int place = 0; place < length; place++) {
                reach.set(place, row.magnitude(place));
                greatest = Math.max(greatest, row.magnitude(place));
            }
            // Descendants stand behind their ancestors, so backwards each reach is ready in time.
            for (int place = length - 1; place >= lowLength; place--) {
                int parent = parentOf(place);
                reach.set(parent, Math.max(reach.get(parent), reach.get(place)));
            }
            return greatest;
        }

        private void writeFirstPass(int plane) {
            for (int place = 0; place < length; place++) {
                long known = row.magnitude(place) >> plane;
                if (known == 1) {
                    put(1);
                    putTelling(row.get(place) < 0 ? 1 : 0, place, plane);
                } else if (known == 0 && !isLeftOut(place, plane)) {
                    put(0);
                    if (hasDescendants(place)) {
                        put(reach.get(place) >> plane == 0 ? 0 : 1);
                    }
                }
            }
        }

        private void writeSecondPass(int plane) {
            for (int place = 0; place < length; place++) {
                long known = row.magnitude(place) >> plane;
                if (known > 1) {
                    putTelling((int) (known & 1), place, plane);
                }
            }
        }

        /**
         * A place is left out just if neither its parent nor any descendant of the parent is
         * significant: then the parent wrote the second 0, or was itself left out by one above it.
         */
        private boolean isLeftOut(int place, int plane) {
            return place >= lowLength && reach.get(parentOf(place)) >> plane == 0;
        }

        private boolean hasDescendants(int place) {
            return (place < lowLength ? place + lowLength : 2 * place) < length;
        }

        /** The parent of a place that is not in the leaf of low bands alone. */
        private int parentOf(int place) {
            return place < 2 * lowLength ? place - lowLength : place / 2;
        }

        private void put(int bit) {
            putTelling(bit, NO_PLACE, 0);
        }

        private void putTelling(int bit, int place, int plane) {
            if (count >= 0 && count < MOST_BITS) {
                bits[count] = (byte) bit;
                toldPlaces[count] = (byte) place;
                toldPlanes[count] = (byte) plane;
                count++;
            }
        }
    }
}
