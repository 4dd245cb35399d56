/** Promises 7 to 14: the tree. */
public final class TreeTest {
    private static final Class<?> INDEX = IndexOutOfBoundsException.class;
    private static final Class<?> ARGUMENT = IllegalArgumentException.class;
    private static final Class<?> STATE = IllegalStateException.class;
    private static final int[] NO_NODES = {0, -1, 2, 3, 4, 7, 15, 16, 17, 31,
            Integer.MAX_VALUE, Integer.MIN_VALUE};

    public static void main(String[] args) {
        promise7SplitValues();
        promise7SplitTree();
        promise8Join();
        promise9IsNode();
        promise10IsLeaf();
        promise11And12Leaves();
        promise13CostOf();
        promise14ChooseBasis();
        promise14ChooseBasisKeepsHighBands();
        Check.end();
    }

    private static void promise7SplitValues() {
        LiftingWorkshop haar = Check.with(0, 5, -2, 7, 8);
        Check.same("7: split", haar.split(1), 2);
        Check.same("7: Haar low", Check.numbers(haar, 2), "1 7");
        Check.same("7: Haar high", Check.numbers(haar, 3), "-7 1");
        Check.same("7: split 2", haar.split(2), 1);
        Check.same("7: Haar low low", Check.numbers(haar, 4), "4");
        Check.same("7: Haar low high", Check.numbers(haar, 5), "6");

        LiftingWorkshop five = Check.with(1, 10, 12, 9, 30, 31, -7, 0, 4);
        Check.same("7: split", five.split(1), 4);
        Check.same("7: 5/3 low", Check.numbers(five, 2), "12 12 28 -4");
        Check.same("7: 5/3 high", Check.numbers(five, 3), "3 10 -22 4");

        LiftingWorkshop nine = Check.with(2, 100, 0, 0, 0);
        Check.same("7: split", nine.split(1), 2);
        Check.same("7: 9/7 low", Check.numbers(nine, 2), "74 -8");
        Check.same("7: 9/7 high", Check.numbers(nine, 3), "-49 14");
        splitNine("100000 -99999 54321 7 -100000 3 31415 99991",
                "-8576 12339 -78082 61235", "-163556 36395 34662 45591");
        // Here it matters that 2048 is added, no less.
        splitNine("28681 43904 25897 60972", "44286 48359", "12493 30515");

        LiftingWorkshop pair = Check.with(1, 4, 9, 0, 0);
        pair.split(1);
        pair.setNumber(2, 0, 4);
        pair.setNumber(2, 1, 9);
        pair.split(2);
        Check.same("7: 5/3 of two numbers, high", Check.numbers(pair, 5), "5");
        Check.same("7: 5/3 of two numbers, low", Check.numbers(pair, 4), "7");
    }

    private static void splitNine(String numbers, String low, String high) {
        String[] row = numbers.split(" ");
        LiftingWorkshop x = new LiftingWorkshop();
        x.begin(row.length);
        x.setWavelet(2);
        for (int place = 0; place < row.length; place++) {
            x.setNumber(1, place, Integer.parseInt(row[place]));
        }
        x.split(1);
        Check.same("7: 9/7 of great numbers, low", Check.numbers(x, 2), low);
        Check.same("7: 9/7 of great numbers, high", Check.numbers(x, 3), high);
        x.join(1);
        Check.same("8: 9/7 taken back", Check.numbers(x, 1), numbers);
    }

    private static void promise7SplitTree() {
        LiftingWorkshop x = new LiftingWorkshop();
        String untouched = Check.stateOf(x);
        for (int node : NO_NODES) {
            Check.refused("7: split " + node, INDEX, () -> x.split(node));
        }
        Check.same("7: refused calls leave", Check.stateOf(x), untouched);
        x.split(1);
        Check.refused("7: split twice", x, STATE, () -> x.split(1));
        x.split(3);
        x.split(6);
        Check.same("7: leaves", Check.leaves(x), "2 12 13 7");
        Check.refused("7: number 12 is not below 8", x, STATE, () -> x.split(12));
        Check.refused("7: no node 8", x, INDEX, () -> x.split(8));

        LiftingWorkshop small = Check.with(0, 1, 2, 3, 4);
        small.split(1);
        small.split(2);
        Check.refused("7: one number only", small, STATE, () -> small.split(4));
        Check.refused("7: one number only, high", small, STATE, () -> small.split(5));

        LiftingWorkshop big = new LiftingWorkshop();
        big.begin(32);
        Check.same("7: split 1 of 32", big.split(1), 16);
        Check.same("7: split 3 of 32", big.split(3), 8);
        Check.same("7: split 7 of 32", big.split(7), 4);
        Check.refused("7: 4 numbers, but number 15", STATE, () -> big.split(15));
        big.split(2);
        big.split(4);
        Check.refused("7: 4 numbers, but number 8", big, STATE, () -> big.split(8));
    }

    private static void promise8Join() {
        LiftingWorkshop x = Check.with(2, 100, -3, 999, -1000, 6, 0, 1, 2);
        String untouched = Check.stateOf(x);
        for (int node : NO_NODES) {
            Check.refused("8: join " + node, INDEX, () -> x.join(node));
        }
        Check.refused("8: join a leaf", STATE, () -> x.join(1));
        Check.same("8: refused calls leave", Check.stateOf(x), untouched);
        for (int node = 1; node < 8; node++) {
            x.split(node);
        }
        Check.refused("8: join a deep leaf", x, STATE, () -> x.join(12));
        Check.same("8: join 6", x.join(6), 1);
        Check.same("8: join 3", x.join(3), 2);
        Check.same("8: leaves", Check.leaves(x), "8 9 10 11 3");
        Check.same("8: join 1", x.join(1), 4);
        Check.same("8: joined", Check.stateOf(x),
                "8: 100 -3 999 -1000 6 0 1 2 | 1: 100 -3 999 -1000 6 0 1 2 | wavelet 2");

        LiftingWorkshop y = Check.with(1, 0, 0, 0, 0);
        y.split(1);
        y.setNumber(3, 0, -3);
        y.setNumber(2, 1, 10);
        // e0 = 0 - floor((-3 - 3 + 2) / 4), e1 = 10 - floor((-3 + 0 + 2) / 4)
        // o0 = -3 + floor((1 + 11) / 2), o1 = 0 + 11
        Check.same("8: join 5/3", y.join(1), 1);
        Check.same("8: 5/3 taken back", Check.numbers(y, 1), "1 3 11 11");
    }

    private static void promise9IsNode() {
        LiftingWorkshop x = new LiftingWorkshop();
        Check.same("9: root", x.isNode(1), true);
        for (int node : NO_NODES) {
            Check.same("9: node " + node, x.isNode(node), false);
        }
        x.split(1);
        x.split(3);
        x.split(7);
        for (int node = -2; node < 40; node++) {
            boolean due = node >= 1 && node <= 3 || node == 6 || node == 7
                    || node == 14 || node == 15;
            Check.same("9: node " + node, x.isNode(node), due);
        }
        x.join(3);
        Check.same("9: no node 7 any more", x.isNode(7), false);
        Check.same("9: no node 15 any more", x.isNode(15), false);
        x.split(3);
        Check.same("9: node 7 comes back as a leaf", x.isNode(7) && !x.isNode(14), true);
        x.begin(4);
        Check.same("9: only the root after begin", x.isNode(2) || x.isNode(6), false);
    }

    private static void promise10IsLeaf() {
        LiftingWorkshop x = new LiftingWorkshop();
        Check.same("10: root", x.isLeaf(1), true);
        String untouched = Check.stateOf(x);
        for (int node : NO_NODES) {
            Check.refused("10: isLeaf " + node, INDEX, () -> x.isLeaf(node));
        }
        Check.same("10: refused calls leave", Check.stateOf(x), untouched);
        x.split(1);
        x.split(2);
        Check.same("10: split root", x.isLeaf(1), false);
        Check.same("10: node 2", x.isLeaf(2), false);
        Check.same("10: node 3", x.isLeaf(3), true);
        Check.same("10: node 5", x.isLeaf(5), true);
        x.split(4);
        Check.same("10: node 8", x.isLeaf(8), true);
        x.join(2);
        Check.same("10: node 2 joined", x.isLeaf(2), true);
    }

    private static void promise11And12Leaves() {
        LiftingWorkshop x = new LiftingWorkshop();
        Check.same("11: leaves", x.leaves(), 1);
        Check.same("12: leafAt", x.leafAt(0), 1);
        x.split(1);
        Check.same("11: leaves", x.leaves(), 2);
        x.split(3);
        x.split(6);
        Check.same("11: leaves", x.leaves(), 4);
        Check.same("12: order of the tree", Check.leaves(x), "2 12 13 7");
        x.split(2);
        x.split(5);
        Check.same("12: order of the tree", Check.leaves(x), "4 10 11 12 13 7");
        x.split(4);
        x.split(7);
        Check.same("11: all leaves", x.leaves(), 8);
        Check.same("12: all leaves", Check.leaves(x), "8 9 10 11 12 13 14 15");
        String untouched = Check.stateOf(x);
        for (int place : new int[] {-1, 8, 9, Integer.MAX_VALUE, Integer.MIN_VALUE}) {
            Check.refused("12: leafAt " + place, INDEX, () -> x.leafAt(place));
        }
        Check.same("12: refused calls leave", Check.stateOf(x), untouched);
        LiftingWorkshop small = Check.with(0, 1, 2, 3, 4);
        small.split(1);
        small.split(3);
        Check.same("12: leaves of one number", Check.leaves(small), "2 6 7");
        Check.refused("12: leafAt 3 of 3", small, INDEX, () -> small.leafAt(3));
    }

    private static void promise13CostOf() {
        LiftingWorkshop x = Check.with(0, 0, 1, -1, 2, -3, 4, 7, -8);
        Check.same("13: cost", x.costOf(1), 0 + 1 + 1 + 2 + 2 + 3 + 3 + 4);
        String untouched = Check.stateOf(x);
        for (int node : NO_NODES) {
            Check.refused("13: costOf " + node, INDEX, () -> x.costOf(node));
        }
        Check.same("13: refused calls leave", Check.stateOf(x), untouched);
        LiftingWorkshop y = Check.with(0, 5, -2, 7, 8);
        y.split(1);
        Check.same("13: cost of a low band", y.costOf(2), 1 + 3);
        Check.same("13: cost of a high band", y.costOf(3), 3 + 1);
        Check.same("13: cost of a split root", y.costOf(1), 8);
        y.split(2);
        Check.same("13: cost of a node with children", y.costOf(2), 3 + 3);
        Check.same("13: cost of the root", y.costOf(1), 10);
        y.setNumber(4, 0, -100000);
        Check.same("13: cost of a great number", y.costOf(4), 17);
        y.setNumber(4, 0, 65536);
        Check.same("13: cost of 65536", y.costOf(4), 17);
        y.setNumber(4, 0, -65535);
        Check.same("13: cost of -65535", y.costOf(4), 16);
    }

    private static void promise14ChooseBasis() {
        LiftingWorkshop x = Check.with(0, 1, 1, 1, 1, 9, 9, 9, 9);
        Check.same("14: levels 3", x.chooseBasis(3), 5);
        Check.same("14: the leaf 4 costs as much as its children", Check.leaves(x), "4 5 3");
        Check.same("14: levels 1", x.chooseBasis(1), 10);
        Check.same("14: levels 1, leaves", Check.leaves(x), "2 3");
        Check.same("14: levels 2", x.chooseBasis(2), 5);
        Check.same("14: levels 2, leaves", Check.leaves(x), "4 5 3");
        String untouched = Check.stateOf(x);
        for (int levels : new int[] {0, 4, -1, Integer.MAX_VALUE, Integer.MIN_VALUE}) {
            Check.refused("14: levels " + levels, ARGUMENT, () -> x.chooseBasis(levels));
        }
        Check.same("14: refused calls leave", Check.stateOf(x), untouched);
        Check.same("14: samples stay", Check.samples(x), "1 1 1 1 9 9 9 9");

        LiftingWorkshop zero = new LiftingWorkshop();
        zero.split(1);
        zero.split(3);
        Check.same("14: zeros cost nothing", zero.chooseBasis(3), 0);
        Check.same("14: then the root is a leaf", Check.leaves(zero), "1");

        LiftingWorkshop flat = new LiftingWorkshop();
        flat.begin(32);
        for (int place = 0; place < 32; place++) {
            flat.setSample(place, 8);
        }
        Check.same("14: a flat signal", flat.chooseBasis(3), 16);
        Check.same("14: a flat signal, leaves", Check.leaves(flat), "8 9 5 3");

        LiftingWorkshop small = Check.with(0, 9, 9, 9, 9);
        Check.same("14: one number is not split", small.chooseBasis(3), 4);
        Check.same("14: leaves of 4 samples", Check.leaves(small), "4 5 3");
    }

    private static void promise14ChooseBasisKeepsHighBands() {
        // The high band is flat: splitting it is worth it, splitting the low one is not.
        LiftingWorkshop x = Check.with(0, 0, 15, 0, 15, 0, 15, 0, 15);
        x.split(1);
        Check.same("14: low band", Check.numbers(x, 2), "7 7 7 7");
        Check.same("14: high band", Check.numbers(x, 3), "15 15 15 15");
        for (int place = 0; place < 4; place++) {
            x.setNumber(2, place, place == 1 ? 1 : 0);
        }
        Check.same("14: edited numbers count", x.chooseBasis(2), 1 + 8);
        Check.same("14: a split high band", Check.leaves(x), "2 6 7");
        Check.same("14: and its high band again", x.chooseBasis(3), 1 + 4);
        Check.same("14: leaves", Check.leaves(x), "2 12 13 7");
        Check.same("14: the same again", x.chooseBasis(3), 5);
    }
}
