/** 'Terms' of cost, and promises 13 and 14: each sentence that names a boundary case. */
public final class BoundaryCostTest {
    private static final int MAX = Integer.MAX_VALUE;
    private static final int MIN = Integer.MIN_VALUE;

    public static void main(String[] args) {
        sizeHasNoSign();
        costOfNumber();
        costOfGreatNumber();
        costOfLeaf();
        costOfNodeWithChildren();
        costOfEachNode();
        costOfRefuses();
        chooseBasisLevels();
        chooseBasisNumbersBelow();
        chooseBasisTakesLeafThatCostsTheSame();
        chooseBasisTakesLeafThatCostsLess();
        chooseBasisUpwards();
        chooseBasisJoinsFirst();
        chooseBasisReturnsCost();
        chooseBasisRefuses();
        Check.end();
    }

    private static int costOf(int number) {
        return Check.leaf(0, 0, number, 0).costOf(1);
    }

    private static void sizeHasNoSign() {
        Check.sentence("Terms", "The size of a number is the number without its sign.");
        for (int number : new int[] {1, 2, 7, 8, 65535, 65536, 100000}) {
            Check.same("the cost of -" + number, costOf(-number), costOf(number));
            Check.same("a hard threshold", Check.leaf(-number, number, 0, 0).hard(1, number), 2);
            Check.same("planes of -" + number, Check.leaf(-number, 0, 0, 0).bits(),
                    Check.leaf(number, 0, 0, 0).bits());
        }
    }

    private static void costOfNumber() {
        Check.sentence("Terms",
                "The cost of a number is how many binary digits its size has (0 for 0)");
        Check.same("0", costOf(0), 0);
        Check.same("1", costOf(1), 1);
        Check.same("-1", costOf(-1), 1);
        for (int digits = 1; digits <= 16; digits++) {
            int power = 1 << digits;
            Check.same("below the power " + digits, costOf(power - 1), digits);
            Check.same("the power " + digits, costOf(power), digits + 1);
            Check.same("minus the power " + digits, costOf(-power), digits + 1);
            Check.same("above minus the power " + digits, costOf(1 - power), digits);
        }
        Check.same("the greatest", costOf(100000), 17);
        Check.same("the least", costOf(-100000), 17);
    }

    private static void costOfGreatNumber() {
        Check.sentence("Terms",
                "The cost of a number is how many binary digits its size has (0 for 0)");
        LiftingWorkshop x = Check.leaf(65536, -65535, 0, 0);
        x.split(1);
        Check.same("the high number", x.number(3, 0), -131071);
        Check.same("17 digits", x.costOf(3), 17);
        x.setNumber(3, 0, 0);
        x.join(1);
        x.setNumber(1, 0, 65536);
        x.setNumber(1, 1, -65536);
        x.split(1);
        Check.same("a high number that setNumber cannot set", x.number(3, 0), -131072);
        Check.same("18 digits", x.costOf(3), 18);
    }

    private static void costOfLeaf() {
        Check.sentence("Terms", "that of a leaf (a node without children) is the sum over its numbers");
        Check.same("the first and the last number count", Check.leaf(-3, 0, 0, 4).costOf(1), 2 + 3);
        LiftingWorkshop x = new LiftingWorkshop();
        x.begin(32);
        for (int place = 0; place < 32; place++) {
            x.setNumber(1, place, place % 2 == 0 ? 100000 : -100000);
        }
        Check.same("32 great numbers", x.costOf(1), 32 * 17);
        LiftingWorkshop one = Check.bands(0, 2, 1, 2, 4, 8);
        Check.same("one number", one.costOf(4), 1);
        Check.same("its sibling", one.costOf(5), 2);
        Check.same("the last leaf", one.costOf(3), 3 + 4);
    }

    private static void costOfNodeWithChildren() {
        Check.sentence("Terms", "that of a node with children the sum over the leaves below it");
        LiftingWorkshop x = Check.bands(0, 2, 1, 2, 4, 8);
        Check.same("two leaves", x.costOf(2), 1 + 2);
        Check.same("all leaves", x.costOf(1), 1 + 2 + 3 + 4);
        LiftingWorkshop full = Check.full(2, 32);
        int sum = 0;
        for (int leaf = 8; leaf < 16; leaf++) {
            sum += full.costOf(leaf);
        }
        Check.same("all leaves of a full tree", full.costOf(1), sum);
        Check.same("a high branch", full.costOf(3), sum - full.costOf(2));
        Check.same("a branch in it", full.costOf(7), full.costOf(14) + full.costOf(15));
    }

    private static void costOfEachNode() {
        Check.sentence("Promise 13", "Returns the cost of a node.");
        Check.same("the root of zeros", new LiftingWorkshop().costOf(1), 0);
        LiftingWorkshop x = Check.bands(0, 3, 1, -2, 4, -8, 16, -32, 64, -128);
        int[] due = {36, 10, 26, 3, 7, 0, 0, 1, 2};
        for (int node : new int[] {1, 2, 3, 4, 5, 8, 9}) {
            Check.same("node " + node, x.costOf(node), due[node - 1]);
        }
        x.setNumber(9, 0, 0);
        Check.same("after an edit", x.costOf(1), 34);
        x.hard(3, 127);
        Check.same("after a threshold", x.costOf(3), 8);
    }

    private static void costOfRefuses() {
        Check.sentence("Promise 13", "Throws `IndexOutOfBoundsException` if there is no such node");
        Check.refuses(Check.INDEX, LiftingWorkshop::new, (x, node) -> x.costOf(node),
                0, -1, 2, 3, 8, 16, MAX, MIN);
        Check.refuses(Check.INDEX, () -> Check.full(0, 32), (x, node) -> x.costOf(node),
                0, -1, 16, 17, MAX, MIN);
        Check.refuses(Check.INDEX, () -> Check.split(Check.with(0, 1, 2, 3, 4), 1, 3),
                (x, node) -> x.costOf(node), 0, 4, 5, 8, 12, 14);
    }

    private static void chooseBasisLevels() {
        Check.sentence("Promise 14", "`levels`: 1 to 3");
        for (int levels = 1; levels <= 3; levels++) {
            LiftingWorkshop x = Check.with(0, 9, 9, 9, 9, 9, 9, 9, 9);
            x.chooseBasis(levels);
            Check.same("levels " + levels, Check.leaves(x),
                    new String[] {"2 3", "4 5 3", "8 9 5 3"}[levels - 1]);
        }
    }

    private static void chooseBasisNumbersBelow() {
        Check.sentence("Promise 14",
                "all trees whose nodes with children have numbers below 2 to the power of levels");
        // Zero but for one place in each pair: the high bands are flat, down to the last one.
        int[] samples = {0, 15, 0, 15, 0, 15, 0, 15};
        String[] due = {"2 3", "2 6 7", "2 12 13 7"};
        int[] costs = {16, 8, 4};
        for (int levels = 1; levels <= 3; levels++) {
            LiftingWorkshop x = Check.with(0, samples);
            x.split(1);
            for (int place = 0; place < 4; place++) {
                x.setNumber(2, place, 0);
            }
            Check.same("cost with levels " + levels, x.chooseBasis(levels), costs[levels - 1]);
            Check.same("leaves with levels " + levels, Check.leaves(x), due[levels - 1]);
        }
        LiftingWorkshop flat = new LiftingWorkshop();
        flat.begin(32);
        for (int place = 0; place < 32; place++) {
            flat.setSample(place, 8);
        }
        Check.same("a fourth level would cost less", flat.chooseBasis(3), 4 * 4);
        Check.same("but there is none", Check.leaves(flat), "8 9 5 3");
        Check.same("one number is not split", Check.with(0, 9, 9, 9, 9).chooseBasis(3), 4);
    }

    private static void chooseBasisTakesLeafThatCostsTheSame() {
        Check.sentence("Promise 14", "the leaf is taken if it costs the same, or less");
        // 0 1 becomes the low number 0 and the high number 1.
        LiftingWorkshop root = Check.with(0, 0, 1, 0, 1);
        Check.same("the root costs the same", root.chooseBasis(1), 2);
        Check.same("the root is taken", Check.leaves(root), "1");
        // The low band 1 0 becomes 0 and -1, the high band 0 0 stays.
        LiftingWorkshop low = Check.with(0, 1, 1, 0, 0);
        Check.same("a child costs the same", low.chooseBasis(2), 1);
        Check.same("the child is taken", Check.leaves(low), "2 3");
        LiftingWorkshop zero = Check.full(0, 16);
        zero.begin(16);
        Check.same("zeros", zero.chooseBasis(3), 0);
        Check.same("the root of zeros", Check.leaves(zero), "1");
        // The low band 5 5 5 4 becomes 5 4 and 0 -1, which cost one less; 5 4 then 4 and -1.
        LiftingWorkshop deep = Check.with(0, 5, 5, 5, 5, 5, 5, 4, 4);
        Check.same("with two levels", deep.chooseBasis(2), 3 + 3 + 1);
        Check.same("its leaves", Check.leaves(deep), "4 5 3");
    }

    private static void chooseBasisTakesLeafThatCostsLess() {
        Check.sentence("Promise 14", "the leaf is taken if it costs the same, or less");
        // 0 2 becomes the low number 1 and the high number 2.
        LiftingWorkshop x = Check.with(0, 0, 2, 0, 2);
        Check.same("the root costs less", x.chooseBasis(1), 4);
        Check.same("the root is taken", Check.leaves(x), "1");
        LiftingWorkshop more = Check.with(0, 1, 3, 1, 3);
        Check.same("another root costs less", more.chooseBasis(1), 6);
        LiftingWorkshop split = Check.with(0, 3, 3, 3, 2);
        Check.same("the root costs more", split.chooseBasis(1), 2 + 2 + 0 + 1);
        Check.same("its children are taken", Check.leaves(split), "2 3");
    }

    private static void chooseBasisUpwards() {
        Check.sentence("Promise 14",
                "and so for each node, from its children, as they are best, upwards");
        // 0 2 0 2 becomes 1 1 | 2 2, which costs more, and then 1 | 0 | 2 | 0, which costs less.
        LiftingWorkshop x = Check.with(0, 0, 2, 0, 2);
        Check.same("with two levels", x.chooseBasis(2), 3);
        Check.same("with two levels, leaves", Check.leaves(x), "4 5 6 7");
        // Two nodes upwards: the root is worth it by the children of its children alone.
        LiftingWorkshop deep = Check.with(0, 0, 2, 0, 2, 0, 2, 0, 2);
        Check.same("with one level", deep.chooseBasis(1), 8);
        Check.same("with one level, leaves", Check.leaves(deep), "1");
        Check.same("with three levels", deep.chooseBasis(3), 3);
        Check.same("with three levels, leaves", Check.leaves(deep), "8 9 5 12 13 7");
    }

    private static void chooseBasisJoinsFirst() {
        Check.sentence("Promise 14", "the tree is joined, and then");
        LiftingWorkshop x = Check.full(0, 8);
        String samples = Check.samples(x);
        x.chooseBasis(1);
        Check.same("no deeper node stays", x.isNode(4) || x.isNode(6), false);
        Check.same("the samples stay", Check.samples(x), samples);
        LiftingWorkshop zero = Check.split(new LiftingWorkshop(), 1, 3, 7);
        zero.chooseBasis(3);
        Check.same("a split tree may become a leaf", Check.leaves(zero), "1");
        LiftingWorkshop edited = Check.with(0, 0, 0, 0, 0);
        edited.split(1);
        edited.setNumber(2, 0, 6);
        edited.setNumber(2, 1, 6);
        Check.same("with edited numbers", edited.chooseBasis(3), 3);
        Check.same("with edited numbers, leaves", Check.leaves(edited), "4 5 3");
        LiftingWorkshop root = Check.with(0, 0, 1, 0, 1);
        root.chooseBasis(1);
        Check.same("a root without children is no fault", root.chooseBasis(1), 2);
    }

    private static void chooseBasisReturnsCost() {
        Check.sentence("Promise 14", "Returns the cost of the root then.");
        for (int wavelet = 0; wavelet <= 2; wavelet++) {
            for (int length = 4; length <= 32; length *= 2) {
                for (int levels = 1; levels <= 3; levels++) {
                    LiftingWorkshop x = Check.full(wavelet, length);
                    int cost = x.chooseBasis(levels);
                    Check.same("wavelet " + wavelet, cost, x.costOf(1));
                }
            }
        }
    }

    private static void chooseBasisRefuses() {
        Check.sentence("Promise 14", "Throws `IllegalArgumentException` if levels is out of range");
        Check.refuses(Check.ARGUMENT, () -> Check.with(0, 9, 9, 9, 9),
                (x, levels) -> x.chooseBasis(levels), 0, 4, -1, 5, 32, 33, MAX, MIN);
        Check.refuses(Check.ARGUMENT, () -> Check.full(1, 32),
                (x, levels) -> x.chooseBasis(levels), 0, 4, -1, 5, 32, 33, MAX, MIN);
    }
}
