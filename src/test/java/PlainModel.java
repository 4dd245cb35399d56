import java.util.ArrayList;
import java.util.List;

/**
 * A second reading of the document, slow and close to its words: the tree is a real tree, and what
 * bits bring back is found by reading the bits, knowing nothing of the numbers. Sums that leave the
 * range of a long throw an ArithmeticException.
 */
final class PlainModel {
    private static final class Node {
        final int name;
        long[] numbers;
        Node low;
        Node high;

        Node(int name, long[] numbers) {
            this.name = name;
            this.numbers = numbers;
        }

        Node copy() {
            Node copy = new Node(name, numbers == null ? null : numbers.clone());
            if (numbers == null) {
                copy.low = low.copy();
                copy.high = high.copy();
            }
            return copy;
        }
    }

    private Node root = new Node(1, new long[8]);
    private int length = 8;
    private int wavelet = 0;

    long begin(int newLength) {
        if (!List.of(4, 8, 16, 32).contains(newLength)) {
            throw new IllegalArgumentException();
        }
        int before = length;
        length = newLength;
        root = new Node(1, new long[length]);
        return before;
    }

    long setSample(int place, int value) {
        inside(place, length);
        range(value, -1000, 1000);
        leafOnly(root);
        long before = root.numbers[place];
        root.numbers[place] = value;
        return before;
    }

    long sample(int place) {
        inside(place, length);
        return joined(root)[place];
    }

    long length() {
        return length;
    }

    long setWavelet(int newWavelet) {
        range(newWavelet, 0, 2);
        leafOnly(root);
        int before = wavelet;
        wavelet = newWavelet;
        return before;
    }

    long split(int name) {
        Node node = find(name);
        leafOnly(node);
        if (node.numbers.length < 2 || name >= 8) {
            throw new IllegalStateException();
        }
        splitNode(node);
        return node.low.numbers.length;
    }

    long join(int name) {
        Node node = find(name);
        if (node.low == null) {
            throw new IllegalStateException();
        }
        int count = countParents(node);
        makeLeaf(node);
        return count;
    }

    long isNode(int name) {
        return lookUp(name) != null ? 1 : 0;
    }

    long isLeaf(int name) {
        return find(name).low == null ? 1 : 0;
    }

    long leaves() {
        return leavesOf(root).size();
    }

    long leafAt(int place) {
        List<Node> all = leavesOf(root);
        inside(place, all.size());
        return all.get(place).name;
    }

    long costOf(int name) {
        return cost(find(name));
    }

    long chooseBasis(int levels) {
        range(levels, 1, 3);
        makeLeaf(root);
        root = best(root, 1 << levels);
        return cost(root);
    }

    long sizeOf(int name) {
        Node node = find(name);
        leafOnly(node);
        return node.numbers.length;
    }

    long number(int name, int place) {
        Node node = find(name);
        leafOnly(node);
        inside(place, node.numbers.length);
        return node.numbers[place];
    }

    long setNumber(int name, int place, int value) {
        Node node = find(name);
        leafOnly(node);
        inside(place, node.numbers.length);
        range(value, -100000, 100000);
        long before = node.numbers[place];
        node.numbers[place] = value;
        return before;
    }

    /** By splitting in truth, not by the filter. */
    long filtered(int name, int k) {
        Node node = find(name);
        leafOnly(node);
        inside(k, node.numbers.length / 2);
        if (wavelet == 2) {
            throw new IllegalStateException();
        }
        Node copy = node.copy();
        splitNode(copy);
        return copy.high.numbers[k];
    }

    long hard(int name, int threshold) {
        return threshold(name, threshold, false);
    }

    long soft(int name, int threshold) {
        return threshold(name, threshold, true);
    }

    long risk(int name, int noise, int threshold) {
        Node node = find(name);
        range(noise, 0, 1000);
        range(threshold, 0, 100000);
        leafOnly(node);
        return riskOf(node, noise, threshold);
    }

    long bestThreshold(int name, int noise) {
        Node node = find(name);
        range(noise, 0, 1000);
        leafOnly(node);
        List<Long> candidates = new ArrayList<>(List.of(0L));
        for (long number : node.numbers) {
            if (Math.abs(number) <= 100000) {
                candidates.add(Math.abs(number));
            }
        }
        candidates.sort(null);
        long best = 0;
        for (long candidate : candidates) {
            if (riskOf(node, noise, candidate) < riskOf(node, noise, best)) {
                best = candidate;
            }
        }
        return best;
    }

    long isPyramid() {
        return noHighSplit(root) ? 1 : 0;
    }

    long bits() {
        pyramidOnly();
        return encode().size();
    }

    long bitAt(int place) {
        pyramidOnly();
        List<Integer> code = encode();
        inside(place, code.size());
        return code.get(place);
    }

    long broughtBack(int bits, int place) {
        pyramidOnly();
        range(bits, 0, Integer.MAX_VALUE);
        inside(place, length);
        return decoded(encode(), bits)[place];
    }

    long errorWith(int bits) {
        pyramidOnly();
        range(bits, 0, Integer.MAX_VALUE);
        return error(encode(), bits);
    }

    long bitsFor(int error) {
        pyramidOnly();
        range(error, 0, Integer.MAX_VALUE);
        List<Integer> code = encode();
        int bits = 0;
        while (error(code, bits) > error) {
            bits++;
        }
        return bits;
    }

    // ---- what calls require

    private static void inside(int place, int end) {
        if (place < 0 || place >= end) {
            throw new IndexOutOfBoundsException();
        }
    }

    private static void range(int value, int least, int greatest) {
        if (value < least || value > greatest) {
            throw new IllegalArgumentException();
        }
    }

    private static void leafOnly(Node node) {
        if (node.low != null) {
            throw new IllegalStateException();
        }
    }

    private void pyramidOnly() {
        if (!noHighSplit(root)) {
            throw new IllegalStateException();
        }
    }

    // ---- the tree

    private Node find(int name) {
        Node node = lookUp(name);
        if (node == null) {
            throw new IndexOutOfBoundsException();
        }
        return node;
    }

    private Node lookUp(int name) {
        if (name < 1) {
            return null;
        }
        Node node = root;
        for (char turn : Integer.toBinaryString(name).substring(1).toCharArray()) {
            if (node != null) {
                node = turn == '0' ? node.low : node.high;
            }
        }
        return node;
    }

    private static List<Node> leavesOf(Node node) {
        List<Node> all = new ArrayList<>();
        if (node.low == null) {
            all.add(node);
        } else {
            all.addAll(leavesOf(node.low));
            all.addAll(leavesOf(node.high));
        }
        return all;
    }

    private static int countParents(Node node) {
        return node.low == null ? 0 : 1 + countParents(node.low) + countParents(node.high);
    }

    private static boolean noHighSplit(Node node) {
        return node.low == null || node.high.low == null && noHighSplit(node.low);
    }

    private static int cost(Node node) {
        int cost = 0;
        for (Node leaf : leavesOf(node)) {
            for (long number : leaf.numbers) {
                cost += number == 0 ? 0 : Long.toBinaryString(Math.abs(number)).length();
            }
        }
        return cost;
    }

    private Node best(Node leaf, int firstKept) {
        if (leaf.name >= firstKept || leaf.numbers.length < 2) {
            return leaf;
        }
        Node parent = leaf.copy();
        splitNode(parent);
        parent.low = best(parent.low, firstKept);
        parent.high = best(parent.high, firstKept);
        return cost(leaf) <= cost(parent) ? leaf : parent;
    }

    // ---- lifting

    private void splitNode(Node node) {
        int h = node.numbers.length / 2;
        long[] e = new long[h];
        long[] o = new long[h];
        for (int k = 0; k < h; k++) {
            e[k] = node.numbers[2 * k];
            o[k] = node.numbers[2 * k + 1];
        }
        for (int step = 0; step < steps(); step++) {
            step(e, o, step, 1);
        }
        node.low = new Node(2 * node.name, e);
        node.high = new Node(2 * node.name + 1, o);
        node.numbers = null;
    }

    private void makeLeaf(Node node) {
        node.numbers = joined(node);
        node.low = null;
        node.high = null;
    }

    private long[] joined(Node node) {
        if (node.low == null) {
            return node.numbers.clone();
        }
        long[] e = joined(node.low);
        long[] o = joined(node.high);
        for (int step = steps() - 1; step >= 0; step--) {
            step(e, o, step, -1);
        }
        long[] numbers = new long[2 * e.length];
        for (int k = 0; k < e.length; k++) {
            numbers[2 * k] = e[k];
            numbers[2 * k + 1] = o[k];
        }
        return numbers;
    }

    private int steps() {
        return wavelet == 2 ? 4 : 2;
    }

    private void step(long[] e, long[] o, int step, long sign) {
        for (int k = 0; k < e.length; k++) {
            if (step % 2 == 0) {
                long sum = Math.addExact(e[k], e[Math.min(k + 1, e.length - 1)]);
                long change = switch (wavelet) {
                    case 0 -> -e[k];
                    case 1 -> -floor(sum, 2);
                    default -> rounded(step == 0 ? -6497 : 3616, sum);
                };
                o[k] = Math.addExact(o[k], sign * change);
            } else {
                long sum = Math.addExact(o[Math.max(k - 1, 0)], o[k]);
                long change = switch (wavelet) {
                    case 0 -> floor(o[k], 2);
                    case 1 -> floor(Math.addExact(sum, 2), 4);
                    default -> rounded(step == 1 ? -217 : 1817, sum);
                };
                e[k] = Math.addExact(e[k], sign * change);
            }
        }
    }

    private static long rounded(long factor, long sum) {
        return floor(Math.addExact(Math.multiplyExact(factor, sum), 2048), 4096);
    }

    private static long floor(long a, long b) {
        long quotient = a / b;
        return a % b < 0 ? quotient - 1 : quotient;
    }

    // ---- thresholds

    private long threshold(int name, int threshold, boolean soft) {
        Node node = find(name);
        range(threshold, 0, 100000);
        leafOnly(node);
        int zeroed = 0;
        for (int k = 0; k < node.numbers.length; k++) {
            long number = node.numbers[k];
            long size = Math.abs(number);
            if (number != 0 && size <= threshold) {
                zeroed++;
            }
            long left = size <= threshold ? 0 : soft ? size - threshold : size;
            node.numbers[k] = Long.signum(number) * left;
        }
        return zeroed;
    }

    private static long riskOf(Node node, long noise, long threshold) {
        long sum = 0;
        long below = 0;
        for (long number : node.numbers) {
            sum += Math.min(Math.multiplyExact(number, number), threshold * threshold);
            below += Math.abs(number) <= threshold ? 1 : 0;
        }
        return node.numbers.length * noise * noise + sum - 2 * noise * noise * below;
    }

    // ---- coding

    private long[] row() {
        long[] row = new long[length];
        int place = 0;
        Node node = root;
        List<Node> order = new ArrayList<>();
        while (node.low != null) {
            order.add(0, node.high);
            node = node.low;
        }
        order.add(0, node);
        for (Node leaf : order) {
            for (long number : leaf.numbers) {
                row[place++] = number;
            }
        }
        return row;
    }

    private int lowest() {
        Node node = root;
        while (node.low != null) {
            node = node.low;
        }
        return node.numbers.length;
    }

    private List<Integer> children(int p) {
        int n = length;
        int m = lowest();
        if (p < m) {
            return m < n ? List.of(p + m) : List.of();
        }
        return 2 * p < n ? List.of(2 * p, 2 * p + 1) : List.of();
    }

    private List<Integer> descendants(int p) {
        List<Integer> all = new ArrayList<>();
        for (int child : children(p)) {
            all.add(child);
            all.addAll(descendants(child));
        }
        return all;
    }

    private static boolean significant(long number, int plane) {
        return Math.abs(number) >= Math.pow(2, plane);
    }

    private List<Integer> encode() {
        long[] row = row();
        long greatest = 0;
        for (long number : row) {
            greatest = Math.max(greatest, Math.abs(number));
        }
        int planes = greatest == 0 ? 0 : Long.toBinaryString(greatest).length();
        List<Integer> code = new ArrayList<>();
        for (int digit = 32; digit >= 1; digit /= 2) {
            code.add(planes / digit % 2);
        }
        for (int b = planes - 1; b >= 0; b--) {
            firstPass(code, row, b, planes);
            for (long number : row) {
                if (b + 1 < planes && significant(number, b + 1)) {
                    code.add((int) (Math.abs(number) / (1L << b) % 2));
                }
            }
        }
        return code;
    }

    private void firstPass(List<Integer> code, long[] row, int b, int planes) {
        boolean[] leftOut = new boolean[length];
        for (int p = 0; p < length; p++) {
            boolean before = b + 1 < planes && significant(row[p], b + 1);
            if (before || leftOut[p]) {
                continue;
            }
            if (significant(row[p], b)) {
                code.add(1);
                code.add(row[p] < 0 ? 1 : 0);
                continue;
            }
            code.add(0);
            if (!children(p).isEmpty()) {
                boolean some = false;
                for (int d : descendants(p)) {
                    some |= significant(row[d], b);
                }
                code.add(some ? 1 : 0);
                if (!some) {
                    for (int d : descendants(p)) {
                        leftOut[d] = true;
                    }
                }
            }
        }
    }

    /** Reads some first bits; next() answers -1 when they are at their end. */
    private static final class Reader {
        final List<Integer> code;
        final int end;
        int position = 0;

        Reader(List<Integer> code, int bits) {
            this.code = code;
            end = Math.min(bits, code.size());
        }

        int next() {
            return position < end ? code.get(position++) : -1;
        }
    }

    private long[] decoded(List<Integer> code, int bits) {
        Reader reader = new Reader(code, bits);
        long[] sizes = new long[length];
        int[] signs = new int[length];
        int[] known = new int[length];
        if (reader.end >= 6) {
            int planes = 0;
            for (int digit = 0; digit < 6; digit++) {
                planes = 2 * planes + reader.next();
            }
            int b = planes - 1;
            while (b >= 0 && readPlane(reader, sizes, signs, known, b)) {
                b--;
            }
        }
        for (int p = 0; p < length; p++) {
            long half = sizes[p] != 0 && known[p] > 0 ? (1L << known[p]) / 2 : 0;
            sizes[p] = signs[p] * (sizes[p] + half);
        }
        return joinedWith(sizes);
    }

    private boolean readPlane(Reader reader, long[] sizes, int[] signs, int[] known, int b) {
        boolean[] before = new boolean[length];
        boolean[] leftOut = new boolean[length];
        for (int p = 0; p < length; p++) {
            before[p] = sizes[p] != 0;
        }
        for (int p = 0; p < length; p++) {
            if (before[p] || leftOut[p]) {
                continue;
            }
            int bit = reader.next();
            int second = bit == 1 || bit == 0 && !children(p).isEmpty() ? reader.next() : 0;
            if (bit < 0 || second < 0) {
                return false;
            }
            if (bit == 1) {
                sizes[p] = 1L << b;
                signs[p] = second == 1 ? -1 : 1;
                known[p] = b;
            } else if (!children(p).isEmpty() && second == 0) {
                for (int d : descendants(p)) {
                    leftOut[d] = true;
                }
            }
        }
        for (int p = 0; p < length; p++) {
            if (before[p]) {
                int bit = reader.next();
                if (bit < 0) {
                    return false;
                }
                sizes[p] += (long) bit << b;
                known[p] = b;
            }
        }
        return true;
    }

    private long[] joinedWith(long[] row) {
        Node copy = root.copy();
        int place = 0;
        for (Node leaf : leavesOf(copy)) {
            for (int k = 0; k < leaf.numbers.length; k++) {
                leaf.numbers[k] = row[place++];
            }
        }
        return joined(copy);
    }

    private long error(List<Integer> code, int bits) {
        long[] samples = joined(root);
        long[] brought = decoded(code, bits);
        long error = 0;
        for (int place = 0; place < length; place++) {
            error += Math.abs(samples[place] - brought[place]);
        }
        return error;
    }
}
