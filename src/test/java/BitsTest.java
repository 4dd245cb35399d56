/** Promises 23 to 28: bits. */
public final class BitsTest {
    private static final Class<?> INDEX = IndexOutOfBoundsException.class;
    private static final Class<?> ARGUMENT = IllegalArgumentException.class;
    private static final Class<?> STATE = IllegalStateException.class;

    public static void main(String[] args) {
        promise23IsPyramid();
        promise24And25OneLeaf();
        promise24And25Children();
        promise24And25SeveralPlanes();
        promise24And25Refusals();
        promise26BroughtBack();
        promise26BroughtBackOfBands();
        promise27ErrorWith();
        promise28BitsFor();
        refusalsOfReading();
        Check.end();
    }

    private static LiftingWorkshop bands(int splits, int... row) {
        return Check.bands(0, splits, row);
    }

    private static LiftingWorkshop noPyramid() {
        LiftingWorkshop x = Check.with(0, 1, 2, 3, 4, 5, 6, 7, 8);
        x.split(1);
        x.split(3);
        return x;
    }

    private static void promise23IsPyramid() {
        LiftingWorkshop x = new LiftingWorkshop();
        Check.same("23: a leaf", x.isPyramid(), true);
        x.split(1);
        Check.same("23: one split", x.isPyramid(), true);
        x.split(2);
        Check.same("23: two splits", x.isPyramid(), true);
        x.split(4);
        Check.same("23: three splits", x.isPyramid(), true);
        x.split(5);
        Check.same("23: 5 has children", x.isPyramid(), false);
        x.join(5);
        x.split(3);
        Check.same("23: 3 has children", x.isPyramid(), false);
        x.split(7);
        Check.same("23: 7 has children", x.isPyramid(), false);
        x.join(3);
        Check.same("23: a pyramid again", x.isPyramid(), true);
    }

    private static void promise24And25OneLeaf() {
        Check.same("25: zeros", Check.code(new LiftingWorkshop()), "000000");
        LiftingWorkshop x = bands(0, 0, 3, -1, 0);
        Check.same("24: bits", x.bits(), 16);
        Check.same("25: no children in one leaf", Check.code(x), "000010" + "01000" + "01101");
        x.setNumber(1, 1, 2);
        Check.same("25: as they are now", Check.code(x), "000010" + "01000" + "01100");
        LiftingWorkshop great = bands(0, -100000, 0, 0, 0);
        Check.same("24: 17 planes", great.bits(), 6 + 5 + 16 * 4);
        Check.same("25: 17 planes", Check.code(great).substring(0, 12), "010001" + "11000" + "0");
    }

    private static void promise24And25Children() {
        // One number in the lowest leaf: 0 has the child 1, 1 the children 2 and 3.
        Check.same("25: a descendant", Check.code(bands(2, 1, 0, 0, -1)), "00000110" + "01011");
        Check.same("25: left out", Check.code(bands(2, 1, 0, 0, 0)), "0000011000");
        Check.same("25: a child", Check.code(bands(2, 0, 1, 0, 0)), "000001" + "01" + "10" + "00");
        Check.same("25: below a 1 nothing is left out", Check.code(bands(2, 0, -1, 0, 1)),
                "000001" + "01" + "11" + "0" + "10");
        Check.same("25: a grandchild", Check.code(bands(2, 0, 0, 1, 0)),
                "000001" + "01" + "01" + "10" + "0");
        // Two numbers: 0 has the child 2, 1 the child 3.
        Check.same("25: one child each", Check.code(bands(1, 0, 1, 0, 0)),
                "000001" + "00" + "10" + "0");
        Check.same("25: the other child", Check.code(bands(1, 0, 0, 0, 1)),
                "000001" + "00" + "01" + "10");
        // Eight numbers, the lowest leaf has two: 2 has the children 4 and 5, 3 has 6 and 7.
        Check.same("25: a tree of 8", Check.code(bands(2, 0, 0, 0, 0, 0, 0, 0, 1)),
                "000001" + "00" + "01" + "01" + "0" + "10");
        Check.same("25: left out are all descendants", Check.code(bands(3, 1, 0, 0, 0, 0, 0, 0, 0)),
                "000001" + "10" + "00");
        Check.same("25: eight in four leaves", Check.code(bands(3, 0, 0, 0, 0, 0, 0, -1, 0)),
                "000001" + "01" + "01" + "00" + "01" + "11" + "0");
    }

    private static void promise24And25SeveralPlanes() {
        // Places 0 | 1 | 2 3 with 5, 0, -2, 1 in three planes.
        Check.same("25: three planes", Check.code(bands(2, 5, 0, -2, 1)), "000011"
                + "10" + "00"
                + "01" + "11" + "0" + "0"
                + "01" + "10" + "1" + "0");
        // A number is found above a descendant that was significant before.
        Check.same("25: found late", Check.code(bands(2, 1, 2, -4, 0)), "000011"
                + "01" + "01" + "11" + "0"
                + "01" + "10" + "0" + "0"
                + "10" + "0" + "0" + "0");
    }

    private static void promise24And25Refusals() {
        LiftingWorkshop x = noPyramid();
        String untouched = Check.stateOf(x);
        Check.refused("24: no pyramid", STATE, () -> x.bits());
        for (int place : new int[] {0, -1, 1000, Integer.MAX_VALUE, Integer.MIN_VALUE}) {
            Check.refused("25: no pyramid", STATE, () -> x.bitAt(place));
        }
        Check.same("25: refused calls leave", Check.stateOf(x), untouched);
        LiftingWorkshop y = bands(2, 1, 0, 0, 0);
        Check.same("25: the last bit", y.bitAt(9), 0);
        String ofY = Check.stateOf(y);
        for (int place : new int[] {-1, 10, 11, 5000, Integer.MAX_VALUE, Integer.MIN_VALUE}) {
            Check.refused("25: bit " + place, INDEX, () -> y.bitAt(place));
        }
        Check.same("25: refused calls leave the pyramid", Check.stateOf(y), ofY);
    }

    private static void promise26BroughtBack() {
        LiftingWorkshop x = bands(0, 0, 2, -1, 0);
        for (int bits = 0; bits < 9; bits++) {
            Check.same("26: nothing is known after " + bits, Check.broughtBack(x, bits), "0 0 0 0");
        }
        for (int bits = 9; bits < 14; bits++) {
            Check.same("26: half more after " + bits, Check.broughtBack(x, bits), "0 3 0 0");
        }
        Check.same("26: the sign is read", Check.broughtBack(x, 14), "0 3 -1 0");
        Check.same("26: a 0 is read", Check.broughtBack(x, 15), "0 3 -1 0");
        Check.same("26: all", Check.broughtBack(x, 16), "0 2 -1 0");
        Check.same("26: more than all", Check.broughtBack(x, Integer.MAX_VALUE), "0 2 -1 0");
        LiftingWorkshop great = bands(0, -21, 0, 0, 0);
        Check.same("26: plane 4", great.broughtBack(8, 0), -24);
        Check.same("26: plane 3", great.broughtBack(6 + 5 + 4, 0), -20);
        Check.same("26: plane 2", great.broughtBack(6 + 5 + 4 + 4, 0), -22);
        Check.same("26: plane 1", great.broughtBack(6 + 5 + 4 + 4 + 4, 0), -21);
        Check.same("26: plane 0", great.broughtBack(6 + 5 + 4 + 4 + 4 + 4, 0), -21);
    }

    private static void promise26BroughtBackOfBands() {
        LiftingWorkshop x = Check.with(0, 5, -2, 7, 8);
        x.split(1);
        // The row is 1 7 | -7 1.
        Check.same("26: the code", Check.code(x), "000011" + "01" + "10" + "11" + "0"
                + "01" + "0" + "1" + "1"
                + "10" + "10" + "1" + "1");
        String before = Check.stateOf(x);
        Check.same("26: low 0 6, high 0 0", Check.broughtBack(x, 10), "0 0 6 6");
        Check.same("26: low 0 6, high -6 0", Check.broughtBack(x, 12), "3 -3 6 6");
        Check.same("26: low 0 7, high -6 0", Check.broughtBack(x, 17), "3 -3 7 7");
        Check.same("26: all", Check.broughtBack(x, x.bits()), "5 -2 7 8");
        Check.same("26: the tree stays", Check.stateOf(x), before);
    }

    private static void promise27ErrorWith() {
        LiftingWorkshop x = bands(0, 0, 2, -1, 0);
        Check.same("27: no bits", x.errorWith(0), 3);
        Check.same("27: 8 bits", x.errorWith(8), 3);
        Check.same("27: 9 bits", x.errorWith(9), 2);
        Check.same("27: 14 bits", x.errorWith(14), 1);
        Check.same("27: 16 bits", x.errorWith(16), 0);
        Check.same("27: more bits", x.errorWith(Integer.MAX_VALUE), 0);
        LiftingWorkshop y = Check.with(0, 5, -2, 7, 8);
        y.split(1);
        Check.same("27: of joined samples", y.errorWith(12), 2 + 1 + 1 + 2);
        Check.same("27: of no bits", y.errorWith(3), 22);
        Check.same("27: of zeros", new LiftingWorkshop().errorWith(6), 0);
    }

    private static void promise28BitsFor() {
        LiftingWorkshop x = bands(0, 0, 2, -1, 0);
        Check.same("28: error 3", x.bitsFor(3), 0);
        Check.same("28: error 2", x.bitsFor(2), 9);
        Check.same("28: error 1", x.bitsFor(1), 14);
        Check.same("28: error 0", x.bitsFor(0), 16);
        Check.same("28: a great error", x.bitsFor(Integer.MAX_VALUE), 0);
        Check.same("28: of zeros", new LiftingWorkshop().bitsFor(0), 0);
        Check.same("26: all bits", x.broughtBack(16, 1), 2);
        Check.same("28: what was read before does not count", x.bitsFor(0), 16);
        LiftingWorkshop exact = bands(0, 0, 3, -1, 0);
        Check.same("28: exact before the last bit", exact.bitsFor(0), 14);
        // The error goes up when a digit is known: 6 is guessed at first, 7 only then.
        LiftingWorkshop up = bands(0, 6, 0, 0, 0);
        Check.same("28: a guess that is right", up.errorWith(8), 0);
        Check.same("28: a worse guess", up.errorWith(15), 1);
        Check.same("28: the least number", up.bitsFor(0), 8);
    }

    private static void refusalsOfReading() {
        LiftingWorkshop x = noPyramid();
        String untouched = Check.stateOf(x);
        Check.refused("26: no pyramid first", STATE, () -> x.broughtBack(-1, 8));
        Check.refused("27: no pyramid first", STATE, () -> x.errorWith(-1));
        Check.refused("28: no pyramid first", STATE, () -> x.bitsFor(-1));
        Check.refused("26: no pyramid", STATE, () -> x.broughtBack(0, 0));
        Check.refused("27: no pyramid", STATE, () -> x.errorWith(0));
        Check.refused("28: no pyramid", STATE, () -> x.bitsFor(0));
        Check.same("26 to 28: refused calls leave", Check.stateOf(x), untouched);
        x.join(3);
        untouched = Check.stateOf(x);
        for (int less : new int[] {-1, -6, Integer.MIN_VALUE}) {
            Check.refused("26: bits first", ARGUMENT, () -> x.broughtBack(less, 8));
            Check.refused("27: bits", ARGUMENT, () -> x.errorWith(less));
            Check.refused("28: error", ARGUMENT, () -> x.bitsFor(less));
        }
        for (int place : new int[] {-1, 8, 32, Integer.MAX_VALUE, Integer.MIN_VALUE}) {
            Check.refused("26: place " + place, INDEX, () -> x.broughtBack(0, place));
        }
        Check.same("26 to 28: refused calls leave the pyramid", Check.stateOf(x), untouched);
    }
}
