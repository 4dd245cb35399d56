/** 'Terms' of the tree and of cost, and promises 7 to 14: each sentence that names a boundary case. */
public final class BoundaryTreeTest {
    private static final int MAX = Integer.MAX_VALUE;
    private static final int MIN = Integer.MIN_VALUE;
    /** No tree has these nodes. */
    private static final int[] NEVER = {0, -1, -2, -8, 16, 17, 31, 32, 1 << 16, 1 << 30, MAX, MIN,
        MIN + 1, MIN + 2};
    /** A tree of the root alone has not these ones, either. */
    private static final int[] NONE_BUT_ROOT = {0, -1, 2, 3, 4, 7, 8, 15, 16, 1 << 30, MAX, MIN,
        MIN + 1};

    public static void main(String[] args) {
        nodesAreNumbered();
        nodeWithChildrenHoldsNone();
        splitNeedsNoChildren();
        splitNeedsTwoNumbers();
        splitNeedsNumberBelowEight();
        splitChangesOneNode();
        splitReturnsNumbersOfChild();
        splitRefusesNoNode();
        splitRefusesState();
        joinTakesChildrenFirst();
        joinReturnsHowMany();
        joinRefusesNoNode();
        joinRefusesLeaf();
        isNodeTells();
        isLeafTells();
        isLeafRefuses();
        leavesCounts();
        leafAtOrder();
        leafAtFirst();
        leafAtReturnsNumber();
        leafAtRefuses();
        Check.end();
    }

    private static void nodesAreNumbered() {
        Check.sentence("Terms", "the node i, when it is split, has the children 2 * i, its low band,"
                + " and 2 * i + 1, its high band, with half as many numbers each");
        for (int node = 1; node < 8; node++) {
            LiftingWorkshop x = new LiftingWorkshop();
            x.begin(32);
            for (int above = node < 4 ? 2 : 4; above > 1; above /= 2) {
                if (node >= above) {
                    x.split(node / above);
                }
            }
            int size = x.sizeOf(node);
            x.setNumber(node, 0, 3);
            x.setNumber(node, 1, 9);
            Check.same("there is no low band yet", x.isNode(2 * node), false);
            Check.same("there is no high band yet", x.isNode(2 * node + 1), false);
            x.split(node);
            Check.same("the size of " + 2 * node, x.sizeOf(2 * node), size / 2);
            Check.same("the size of " + (2 * node + 1), x.sizeOf(2 * node + 1), size / 2);
            Check.same("the low band of " + node, x.number(2 * node, 0), 6);
            Check.same("the high band of " + node, x.number(2 * node + 1, 0), 6);
            x.setNumber(2 * node, 0, 1);
            x.setNumber(2 * node + 1, 0, 0);
            x.join(node);
            Check.same("joined from its low band", x.number(node, 1), 1);
        }
        Check.sentence("Terms", "1 is the root, which holds the signal");
        LiftingWorkshop x = Check.with(0, 5, 6, 7, 8);
        Check.same("the root", Check.numbers(x, 1), "5 6 7 8");
        x.setNumber(1, 3, 1001);
        Check.same("a number of the root is a sample", x.sample(3), 1001);
    }

    private static void nodeWithChildrenHoldsNone() {
        Check.sentence("Terms", "A node with children holds no numbers of its own.");
        Check.refuses(Check.STATE, Check::lopsided, (x, node) -> x.sizeOf(node), 1, 3, 6);
        Check.refuses(Check.STATE, Check::lopsided, (x, node) -> x.number(node, 0),
                1, 3, 6);
        Check.refuses(Check.STATE, Check::lopsided, (x, node) -> x.setNumber(node, 0, 1),
                1, 3, 6);
        LiftingWorkshop x = Check.with(0, 64, 64, 64, 64);
        x.split(1);
        x.setNumber(2, 0, 0);
        x.setNumber(2, 1, 0);
        Check.same("what was there costs nothing", x.costOf(1), 0);
    }

    private static void splitNeedsNoChildren() {
        Check.sentence("Terms", "A node can be split if it has no children");
        Check.refuses(Check.STATE, Check::lopsided, (x, node) -> x.split(node), 1, 3, 6);
        LiftingWorkshop x = Check.lopsided();
        x.join(3);
        Check.same("when it has none any more", x.split(3), 2);
    }

    private static void splitNeedsTwoNumbers() {
        Check.sentence("Terms", "holds 2 numbers at least");
        LiftingWorkshop x = Check.split(Check.with(0, 1, 2, 3, 4), 1);
        Check.same("two numbers", x.split(2), 1);
        Check.same("two numbers of a high band", x.split(3), 1);
        Check.refuses(Check.STATE, () -> Check.full(0, 4), (y, node) -> y.split(node), 4, 5, 6, 7);
        LiftingWorkshop eight = Check.split(new LiftingWorkshop(), 1, 2, 3);
        for (int node = 4; node < 8; node++) {
            Check.same("two numbers of node " + node, eight.split(node), 1);
        }
    }

    private static void splitNeedsNumberBelowEight() {
        Check.sentence("Terms", "its number is below 8");
        LiftingWorkshop x = new LiftingWorkshop();
        x.begin(32);
        Check.split(x, 1, 2, 3);
        Check.same("node 7", x.split(7), 4);
        Check.same("node 4", x.split(4), 4);
        for (int length = 8; length <= 32; length *= 2) {
            int used = length;
            Check.refuses(Check.STATE, () -> Check.full(0, used), (y, node) -> y.split(node),
                    8, 9, 10, 11, 12, 13, 14, 15);
        }
    }

    private static void splitChangesOneNode() {
        Check.sentence("Promise 7", "Splits a node.");
        LiftingWorkshop x = Check.bands(0, 2, 1, 2, 3, 5, 5, 6, 7, 9);
        x.split(5);
        Check.same("a node in the middle", Check.numbers(x, 4) + " | " + Check.numbers(x, 10) + " | "
                + Check.numbers(x, 11) + " | " + Check.numbers(x, 3), "1 2 | 4 | 2 | 5 6 7 9");
        x.split(3);
        Check.same("the last node", Check.numbers(x, 4) + " | " + Check.numbers(x, 10) + " | "
                + Check.numbers(x, 11) + " | " + Check.numbers(x, 6) + " | " + Check.numbers(x, 7),
                "1 2 | 4 | 2 | 5 8 | 1 2");
        x.split(4);
        Check.same("the first node", Check.numbers(x, 8) + " | " + Check.numbers(x, 9) + " | "
                + Check.numbers(x, 10) + " | " + Check.numbers(x, 6), "1 | 1 | 4 | 5 8");
    }

    private static void splitReturnsNumbersOfChild() {
        Check.sentence("Promise 7", "Returns how many numbers each of its children has.");
        for (int length = 4; length <= 32; length *= 2) {
            LiftingWorkshop x = new LiftingWorkshop();
            x.begin(length);
            Check.same("the root of " + length, x.split(1), length / 2);
            Check.same("a high band of " + length, x.split(3), length / 4);
            if (length > 4) {
                Check.same("a high band of that", x.split(7), length / 8);
            }
        }
    }

    private static void splitRefusesNoNode() {
        Check.sentence("Promise 7", "Throws `IndexOutOfBoundsException` if there is no such node");
        Check.refuses(Check.INDEX, LiftingWorkshop::new, (x, node) -> x.split(node), NONE_BUT_ROOT);
        Check.refuses(Check.INDEX, Check::lopsided, (x, node) -> x.split(node),
                Check.NONE_OF_LOPSIDED);
        Check.refuses(Check.INDEX, () -> Check.full(2, 32), (x, node) -> x.split(node), NEVER);
        Check.refuses(Check.INDEX, () -> Check.full(2, 4), (x, node) -> x.split(node), 8, 9, 15);
    }

    private static void splitRefusesState() {
        Check.sentence("Promise 7", "Throws `IllegalStateException` if it cannot be split");
        Check.refuses(Check.STATE, Check::lopsided, (x, node) -> x.split(node),
                1, 3, 6, 12, 13);
        Check.refuses(Check.STATE, () -> Check.full(1, 4), (x, node) -> x.split(node),
                1, 2, 3, 4, 5, 6, 7);
    }

    private static void joinTakesChildrenFirst() {
        Check.sentence("Promise 8", "Joins a node; children that have children are joined first.");
        for (int wavelet = 0; wavelet <= 2; wavelet++) {
            for (int length = 4; length <= 32; length *= 2) {
                LiftingWorkshop x = Check.full(wavelet, length);
                String samples = Check.samples(x);
                x.join(1);
                Check.same("wavelet " + wavelet, Check.numbers(x, 1), samples);
                Check.same("no other node is left", Check.leaves(x) + x.isNode(2) + x.isNode(3)
                        + x.isNode(7) + x.isNode(8), "1falsefalsefalsefalse");
            }
        }
        LiftingWorkshop x = Check.split(Check.with(0, 2, 2, 2, 2, 6, 6, 6, 6), 1, 3, 2, 4, 5);
        x.join(2);
        Check.same("only the branch of that node", Check.leaves(x), "2 6 7");
        Check.same("its numbers", Check.numbers(x, 2), "2 2 6 6");
    }

    private static void joinReturnsHowMany() {
        Check.sentence("Promise 8", "Returns how many nodes are joined.");
        Check.same("a node with two leaves",
                Check.split(new LiftingWorkshop(), 1).join(1), 1);
        Check.same("one child with children", Check.split(new LiftingWorkshop(), 1, 3).join(1), 2);
        Check.same("both", Check.split(new LiftingWorkshop(), 1, 2, 3).join(1), 3);
        Check.same("a chain", Check.split(new LiftingWorkshop(), 1, 3, 7).join(1), 3);
        Check.same("all that can be split", Check.full(0, 32).join(1), 7);
        Check.same("all of 4 samples", Check.full(0, 4).join(1), 3);
        Check.same("half of all", Check.full(0, 32).join(3), 3);
        Check.same("the lowest ones", Check.full(0, 32).join(7), 1);
    }

    private static void joinRefusesNoNode() {
        Check.sentence("Promise 8", "Throws `IndexOutOfBoundsException` if there is no such node");
        Check.refuses(Check.INDEX, LiftingWorkshop::new, (x, node) -> x.join(node), NONE_BUT_ROOT);
        Check.refuses(Check.INDEX, Check::lopsided, (x, node) -> x.join(node),
                Check.NONE_OF_LOPSIDED);
        Check.refuses(Check.INDEX, () -> Check.full(2, 32), (x, node) -> x.join(node), NEVER);
        LiftingWorkshop x = Check.lopsided();
        x.join(3);
        Check.refused("a node that was joined with its parent", x, Check.INDEX, () -> x.join(6));
    }

    private static void joinRefusesLeaf() {
        Check.sentence("Promise 8", "Throws `IllegalStateException` if it has no children");
        Check.refuses(Check.STATE, LiftingWorkshop::new, (x, node) -> x.join(node), 1);
        Check.refuses(Check.STATE, Check::lopsided, (x, node) -> x.join(node),
                2, 7, 12, 13);
        Check.refuses(Check.STATE, () -> Check.full(2, 32), (x, node) -> x.join(node), 8, 15);
        Check.refuses(Check.STATE, () -> Check.full(2, 4), (x, node) -> x.join(node), 4, 7);
    }

    private static void isNodeTells() {
        Check.sentence("Promise 9", "Tells whether there is a node with a number.");
        Check.same("the root", new LiftingWorkshop().isNode(1), true);
        for (int node : NONE_BUT_ROOT) {
            Check.same("of a root alone " + node, new LiftingWorkshop().isNode(node), false);
        }
        for (int node : Check.NONE_OF_LOPSIDED) {
            Check.same("of a lopsided tree " + node, Check.lopsided().isNode(node), false);
        }
        for (int node : new int[] {1, 2, 3, 6, 7, 12, 13}) {
            Check.same("of a lopsided tree " + node, Check.lopsided().isNode(node), true);
        }
        for (int node = 1; node < 16; node++) {
            Check.same("of a full tree " + node, Check.full(0, 8).isNode(node), true);
            Check.same("of 4 samples " + node, Check.full(0, 4).isNode(node), node < 8);
        }
        for (int node : NEVER) {
            Check.same("of a full tree " + node, Check.full(0, 32).isNode(node), false);
        }
        LiftingWorkshop x = Check.full(0, 8);
        x.join(2);
        x.split(2);
        Check.same("children of joined children do not come back", x.isNode(4) && x.isNode(5)
                && !x.isNode(8) && !x.isNode(9) && !x.isNode(10) && !x.isNode(11), true);
    }

    private static void isLeafTells() {
        Check.sentence("Promise 10", "Tells whether a node is a leaf.");
        Check.same("the root alone", new LiftingWorkshop().isLeaf(1), true);
        for (int node : new int[] {1, 3, 6}) {
            Check.same("of a lopsided tree " + node, Check.lopsided().isLeaf(node), false);
        }
        for (int node : new int[] {2, 7, 12, 13}) {
            Check.same("of a lopsided tree " + node, Check.lopsided().isLeaf(node), true);
        }
        for (int node = 1; node < 16; node++) {
            Check.same("of a full tree " + node, Check.full(0, 16).isLeaf(node), node >= 8);
        }
        LiftingWorkshop x = Check.full(0, 8);
        x.join(1);
        Check.same("a joined root", x.isLeaf(1), true);
    }

    private static void isLeafRefuses() {
        Check.sentence("Promise 10", "Throws `IndexOutOfBoundsException` if there is no such node");
        Check.refuses(Check.INDEX, LiftingWorkshop::new, (x, node) -> x.isLeaf(node), NONE_BUT_ROOT);
        Check.refuses(Check.INDEX, Check::lopsided, (x, node) -> x.isLeaf(node),
                Check.NONE_OF_LOPSIDED);
        Check.refuses(Check.INDEX, () -> Check.full(0, 32), (x, node) -> x.isLeaf(node), NEVER);
    }

    private static void leavesCounts() {
        Check.sentence("Promise 11", "Returns how many leaves the tree has.");
        LiftingWorkshop x = new LiftingWorkshop();
        Check.same("the root alone", x.leaves(), 1);
        for (int node = 1; node < 8; node++) {
            x.split(node);
            Check.same("after " + node + " splits", x.leaves(), node + 1);
        }
        x.join(2);
        Check.same("after a join of three nodes", x.leaves(), 5);
        x.join(1);
        Check.same("after all is joined", x.leaves(), 1);
        Check.same("all of 4 samples", Check.full(0, 4).leaves(), 4);
    }

    private static void leafAtOrder() {
        Check.sentence("Promise 12", "of two bands of a node all leaves of the low one come first");
        Check.same("of a full tree", Check.leaves(Check.full(0, 8)), "8 9 10 11 12 13 14 15");
        Check.same("a high band is split", Check.leaves(Check.lopsided()), "2 12 13 7");
        Check.same("a low band is split",
                Check.leaves(Check.split(new LiftingWorkshop(), 1, 2, 5)), "4 10 11 3");
        Check.same("both ways",
                Check.leaves(Check.split(new LiftingWorkshop(), 1, 3, 7, 2, 4)), "8 9 5 6 14 15");
    }

    private static void leafAtFirst() {
        Check.sentence("Promise 12", "`place`: 0 for the first one");
        Check.same("the root alone", new LiftingWorkshop().leafAt(0), 1);
        Check.same("the first of a full tree", Check.full(0, 8).leafAt(0), 8);
        Check.same("the last of a full tree", Check.full(0, 8).leafAt(7), 15);
        Check.same("the last of 4 samples", Check.full(0, 4).leafAt(3), 7);
    }

    private static void leafAtReturnsNumber() {
        Check.sentence("Promise 12", "Returns its number.");
        for (int node = 1; node < 8; node++) {
            LiftingWorkshop x = new LiftingWorkshop();
            for (int above = node < 4 ? 2 : 4; above >= 1; above /= 2) {
                if (node >= above) {
                    x.split(node / above);
                }
            }
            int found = 0;
            for (int place = 0; place < x.leaves(); place++) {
                int leaf = x.leafAt(place);
                Check.same("a leaf", x.isNode(leaf) && x.isLeaf(leaf), true);
                found += leaf / 2 == node ? 1 : 0;
            }
            Check.same("both children of " + node, found, 2);
        }
    }

    private static void leafAtRefuses() {
        Check.sentence("Promise 12",
                "Throws `IndexOutOfBoundsException` if there are not so many leaves");
        Check.refuses(Check.INDEX, LiftingWorkshop::new, (x, place) -> x.leafAt(place),
                -1, 1, 2, 8, MAX, MIN);
        Check.refuses(Check.INDEX, Check::lopsided, (x, place) -> x.leafAt(place),
                -1, 4, 5, MAX, MIN);
        Check.refuses(Check.INDEX, () -> Check.full(0, 32), (x, place) -> x.leafAt(place),
                -1, 8, 9, 15, MAX, MIN);
    }
}
