/** 'Terms' of coding and of what bits bring back: each sentence that names a boundary case. */
public final class BoundaryCodeTest {
    public static void main(String[] args) {
        onlyPyramidsAreCoded();
        rowOfLeaves();
        rowOfRoot();
        childrenOfLowestLeaf();
        childrenOfOthers();
        childrenOfNone();
        sixBits();
        sixBitsOfGreatNumbers();
        significantNumbers();
        firstPassSkipsKnown();
        firstPassSigns();
        firstPassDescendants();
        descendantsOfDescendants();
        planesFollow();
        leftOutAreAllDescendants();
        leftOutInThisPassOnly();
        secondPass();
        fewerThanSixBits();
        numbersWithoutOne();
        numbersKnownDownToPlane();
        halfOfThePlane();
        oneWithoutSign();
        everyCut();
        samplesBroughtBack();
        Check.end();
    }

    private static LiftingWorkshop haar(int splits, int... row) {
        return Check.bands(0, splits, row);
    }

    private static String code(int splits, int... row) {
        return Check.code(haar(splits, row));
    }

    private static void onlyPyramidsAreCoded() {
        Check.sentence("Terms",
                "Numbers can be coded if the tree is a pyramid: no high band has children.");
        int[][] pyramids = {{}, {1}, {1, 2}, {1, 2, 4}};
        for (int[] nodes : pyramids) {
            Check.same("a pyramid", Check.code(Check.split(new LiftingWorkshop(), nodes)), "000000");
        }
        int[][] others = {{1, 3}, {1, 2, 5}, {1, 3, 6}, {1, 3, 7}, {1, 2, 4, 5}, {1, 2, 4, 3}};
        for (int[] nodes : others) {
            Check.refuses(Check.STATE, () -> Check.split(new LiftingWorkshop(), nodes),
                    (x, bits) -> x.bits(), nodes.length);
        }
    }

    private static void rowOfLeaves() {
        Check.sentence("Terms", "the numbers of the leaf that is reached by low bands alone, m of"
                + " them, then those of its high sibling, then those of the high bands that are twice"
                + " as long, and so on");
        // The lowest plane's second pass tells the order, as only every other number is odd.
        LiftingWorkshop x = Check.split(new LiftingWorkshop(), 1, 2, 4);
        x.setNumber(8, 0, 3);
        x.setNumber(9, 0, 2);
        x.setNumber(5, 0, 3);
        x.setNumber(5, 1, 2);
        for (int place = 0; place < 4; place++) {
            x.setNumber(3, place, place < 2 ? 3 : 2);
        }
        Check.same("four leaves", Check.code(x), "000010" + "1010101010101010" + "10101100");
        LiftingWorkshop two = Check.split(new LiftingWorkshop(), 1);
        for (int place = 0; place < 4; place++) {
            two.setNumber(2, place, place == 3 ? 3 : 2);
            two.setNumber(3, place, place == 0 ? 3 : 2);
        }
        Check.same("two leaves", Check.code(two), "000010" + "1010101010101010" + "00011000");
    }

    private static void rowOfRoot() {
        Check.sentence("Terms", "if the root is a leaf, it is the whole row");
        Check.same("the first number", code(0, 1, 0, 0, 0), "000001" + "10000");
        Check.same("the last number", code(0, 0, 0, 0, -1), "000001" + "00011");
        int[] row = new int[32];
        row[31] = 1;
        Check.same("the last of 32", code(0, row), "000001" + "0".repeat(31) + "10");
    }

    private static void childrenOfLowestLeaf() {
        Check.sentence("Terms", "p + m, if p is below m, and m is below n");
        // m is 4: the children of 0 to 3 are 4 to 7, and they have none.
        Check.same("the first of four", code(1, 0, 0, 0, 0, 1, 0, 0, 0),
                "000001" + "01" + "00" + "00" + "00" + "10");
        Check.same("the last of four", code(1, 0, 0, 0, 0, 0, 0, 0, 1),
                "000001" + "00" + "00" + "00" + "01" + "10");
        // m is 1: the child of 0 is 1.
        Check.same("the only one", code(2, 0, 1, 0, 0), "000001" + "01" + "10" + "0" + "0");
        // m is 4 of 32: the child of 3 is 7, and its first descendant at the end is 28.
        int[] row = new int[32];
        row[28] = 1;
        Check.same("the last of four in 32", code(3, row), "000001" + "00" + "00" + "00" + "01"
                + "01" + "01" + "00" + "10" + "0");
    }

    private static void childrenOfOthers() {
        Check.sentence("Terms", "2 * p and 2 * p + 1, if p is m or more and 2 * p is below n");
        // m is 2 of 8: the children of 2 are 4 and 5, those of 3 are 6 and 7.
        Check.same("the first child of m", code(2, 0, 0, 0, 0, 1, 0, 0, 0),
                "000001" + "01" + "00" + "01" + "10" + "0");
        Check.same("the second child of m", code(2, 0, 0, 0, 0, 0, 1, 0, 0),
                "000001" + "01" + "00" + "01" + "0" + "10");
        Check.same("the first child of the last parent", code(2, 0, 0, 0, 0, 0, 0, 1, 0),
                "000001" + "00" + "01" + "01" + "10" + "0");
        Check.same("the last child", code(2, 0, 0, 0, 0, 0, 0, 0, 1),
                "000001" + "00" + "01" + "01" + "0" + "10");
        // m is 1 of 8: the child of 0 is 1, that of 1 are 2 and 3, and so on.
        Check.same("from a leaf of one number", code(3, 0, 0, 0, 0, 0, 0, 0, 1),
                "000001" + "01" + "01" + "00" + "01" + "0" + "10");
    }

    private static void childrenOfNone() {
        Check.sentence("Terms", "otherwise none");
        Check.same("no place of one leaf", code(0, 0, 0, 0, 0, 0, 0, 0, 1),
                "000001" + "0000000" + "10");
        Check.same("no place from the middle on", code(1, 1, 1, 1, 1, 0, 0, 0, 0),
                "000001" + "10101010" + "0000");
        Check.same("the place before the middle has some", code(2, 1, 1, 1, 0, 1, 1, 0, 0),
                "000001" + "101010" + "00" + "1010");
    }

    private static void sixBits() {
        Check.sentence("Terms", "Six bits come first, the highest one first: how many binary digits"
                + " the greatest size in the row has");
        int[] numbers = {0, 1, 2, 3, 4, 7, 8, 15, 16, 32767, 32768, 65535, 65536, 100000};
        String[] due = {"000000", "000001", "000010", "000010", "000011", "000011", "000100",
            "000100", "000101", "001111", "010000", "010000", "010001", "010001"};
        for (int k = 0; k < numbers.length; k++) {
            Check.same("of " + numbers[k], code(0, 0, numbers[k], 0, 0).substring(0, 6), due[k]);
            Check.same("of -" + numbers[k], code(0, 0, 0, 0, -numbers[k]).substring(0, 6), due[k]);
            Check.same("in another leaf", code(2, 0, 0, 0, -numbers[k]).substring(0, 6), due[k]);
        }
        Check.same("the greatest one counts", code(0, 3, -8, 7, 1).substring(0, 6), "000100");
        Check.same("nothing follows if all are 0", code(2, 0, 0, 0, 0), "000000");
    }

    private static void sixBitsOfGreatNumbers() {
        Check.sentence("Terms", "how many binary digits the greatest size in the row has");
        LiftingWorkshop x = Check.split(Check.leaf(65536, -65536, 0, 0), 1);
        Check.same("the high number", x.number(3, 0), -131072);
        // Places 0 and 1 are 0; 2 is -131072, the child of 0.
        Check.same("18 planes", Check.code(x).substring(0, 6 + 6), "010010" + "01" + "00" + "11");
        Check.same("18 planes, bits", x.bits(), 6 + 6 + 17 * (2 + 2 + 1));
    }

    private static void significantNumbers() {
        Check.sentence("Terms",
                "A number is significant in the plane b if its size is 2 to the power of b, or more.");
        // Planes 2, 1, 0 of 4, 3, -4, -3: the sizes of 3 come in plane 1.
        Check.same("just the power, and one less", code(0, 4, 3, -4, -3),
                "000011" + "10" + "0" + "11" + "0" + "10" + "11" + "00" + "0101");
        Check.same("a size of 1 in the plane 0", code(0, 2, 1, 0, -1),
                "000010" + "10" + "0" + "0" + "0" + "10" + "0" + "11" + "0");
        // The same of descendants.
        Check.same("a descendant of just the power", code(1, 1, 0, 2, 1),
                "000010" + "01" + "00" + "10" + "10" + "01" + "10" + "0");
        Check.same("a descendant of one less", code(1, 4, 0, 0, 3),
                "000011" + "10" + "00" + "0" + "01" + "0" + "10" + "0" + "01" + "0" + "01");
    }

    private static void firstPassSkipsKnown() {
        Check.sentence("Terms", "a number that was significant in a plane before writes nothing");
        Check.same("all were significant", code(0, 2, -3, 3, -2),
                "000010" + "10111011" + "0110");
        Check.same("some were", code(0, 2, 0, 1, 0), "000010" + "10000" + "0100" + "0");
        // A number that was significant before does not tell of its descendants again.
        Check.same("with descendants", code(2, 2, 0, 0, 0),
                "000010" + "10" + "00" + "00" + "0");
    }

    private static void firstPassSigns() {
        Check.sentence("Terms", "a number that is significant now writes 1, then 1 if it is below 0,"
                + " otherwise 0");
        Check.same("1 and -1", code(0, 1, -1, 0, 0), "000001" + "10" + "11" + "00");
        Check.same("with children, no third bit", code(1, -1, 1, 0, 0),
                "000001" + "11" + "10" + "0" + "0");
        Check.same("in a lower plane", code(0, 2, -1, 0, 0), "000010" + "10000" + "1100" + "0");
    }

    private static void firstPassDescendants() {
        Check.sentence("Terms", "if its place has children, 1 if some descendant is significant in"
                + " this plane, otherwise 0");
        Check.same("a grandchild", code(2, 0, 0, 0, 1), "000001" + "01" + "01" + "0" + "10");
        Check.same("none", code(2, 1, 0, 0, 0), "000001" + "10" + "00");
        Check.same("one that was significant before", code(2, 0, 0, 2, 0),
                "000010" + "01" + "01" + "10" + "0" + "01" + "01" + "0" + "0");
        Check.same("a child that comes one plane later", code(2, 2, 1, 0, 0),
                "000010" + "10" + "00" + "10" + "0" + "0" + "0");
    }

    private static void descendantsOfDescendants() {
        Check.sentence("Terms", "Its descendants are its children, their children, and so on.");
        Check.same("children of children of children", code(3, 0, 0, 0, 0, 1, 0, 0, 0),
                "000001" + "01" + "01" + "01" + "00" + "10" + "0");
        int[] row = new int[32];
        row[31] = -1;
        Check.same("the last one of 32", code(3, row), "000001" + "00" + "00" + "00" + "01"
                + "01" + "00" + "01" + "0" + "11");
        row[31] = 0;
        row[15] = 1;
        Check.same("one that has children itself", code(3, row), "000001" + "00" + "00" + "00" + "01"
                + "01" + "00" + "10" + "0" + "0");
    }

    private static void planesFollow() {
        Check.sentence("Terms", "Then planes follow, from the highest one down to the plane 0.");
        Check.same("three planes", code(0, 4, 2, 1, 0),
                "000011" + "10000" + "1000" + "0" + "100" + "00");
        Check.same("one plane", code(0, 1, 1, 0, 0), "000001" + "101000");
        LiftingWorkshop x = haar(0, 65536, 1, 0, 0);
        Check.same("17 planes", x.bits(), 6 + 5 + 16 * 4 + 1);
        Check.same("the plane 0 at the end", Check.code(x).substring(6 + 5 + 15 * 4), "10000");
    }

    private static void leftOutAreAllDescendants() {
        Check.sentence("Terms",
                "where it writes this second 0, all its descendants are left out in this pass");
        Check.same("children and grandchildren", code(3, 0, 0, 0, 0, 0, 0, 0, 0), "000000");
        // m is 2 of 8: 0 leaves out 2, 4 and 5.
        Check.same("of one of two", code(2, 0, 1, 0, 0, 0, 0, 0, 0),
                "000001" + "00" + "10" + "00");
        Check.same("a 1 leaves out none", code(2, 1, 0, 0, 0, 0, 0, 0, 1),
                "000001" + "10" + "01" + "00" + "01" + "0" + "10");
        Check.same("nor does one that was significant before", code(1, 2, 0, 1, 0),
                "000010" + "10" + "00" + "0" + "00" + "10" + "0");
    }

    private static void leftOutInThisPassOnly() {
        Check.sentence("Terms", "are left out in this pass");
        // In plane 1 place 1 leaves out 3; in plane 0 place 3 is found.
        Check.same("found in the next pass", code(1, 2, 0, 0, 1),
                "000010" + "10" + "00" + "0" + "01" + "0" + "10" + "0");
        // In plane 2 all but 0 are left out; then 1 is found, and then 3.
        Check.same("one after the other", code(2, 4, 2, 0, 1),
                "000011" + "10" + "00" + "10" + "0" + "0" + "0" + "0" + "10" + "0" + "0");
    }

    private static void secondPass() {
        Check.sentence("Terms", "each number that was significant in a plane before writes the binary"
                + " digit b of its size");
        Check.same("5 and -6", code(0, 5, -6, 0, 0),
                "000011" + "10" + "11" + "00" + "00" + "01" + "00" + "10");
        Check.same("none in the highest plane", code(0, 1, 1, 1, 1), "000001" + "10101010");
        Check.same("none that is new in this plane", code(0, 3, 1, 0, 0),
                "000010" + "10000" + "10" + "0" + "0" + "1");
        Check.same("17 digits", Check.code(haar(0, -100000, 0, 0, 0)).substring(11),
                "0001" + "0000" + "0000" + "0000" + "0000" + "0001" + "0001" + "0000" + "0001"
                + "0000" + "0001" + "0000" + "0000" + "0000" + "0000" + "0000");
    }

    private static void fewerThanSixBits() {
        Check.sentence("Terms", "With fewer than six bits all numbers count as 0.");
        LiftingWorkshop x = haar(0, 100000, -100000, 65535, 1);
        for (int bits = 0; bits <= 6; bits++) {
            Check.same("with " + bits, Check.broughtBack(x, bits), "0 0 0 0");
        }
        Check.same("with one number more", Check.broughtBack(x, 8), "98304 0 0 0");
    }

    private static void numbersWithoutOne() {
        Check.sentence("Terms", "a number none of whose digits is 1 so far counts as 0");
        LiftingWorkshop x = haar(0, 4, 1, 0, -3);
        // Plane 2 is 10 0 0 0, plane 1 is 0 0 11 and 0, plane 0 is 10 0 and 0 1.
        Check.same("the code", Check.code(x), "000011" + "10000" + "0011" + "0" + "100" + "01");
        Check.same("after plane 2", Check.broughtBack(x, 11), "6 0 0 0");
        Check.same("after plane 1", Check.broughtBack(x, 16), "5 0 0 -3");
        Check.same("after plane 0", Check.broughtBack(x, 21), "4 1 0 -3");
    }

    private static void numbersKnownDownToPlane() {
        Check.sentence("Terms", "tells of each number its sign and its digits down to some plane");
        LiftingWorkshop x = haar(0, 13, -11, 0, 0);
        // 13 is 1101, 11 is 1011: plane 3 is 10 11 0 0, then 00 and two digits, three times.
        int[] bits = {12, 14, 15, 16, 18, 19, 20, 22, 23, 24};
        String[] due = {"12 -12", "12 -12", "14 -12", "14 -10", "14 -10", "13 -10", "13 -11",
            "13 -11", "13 -11", "13 -11"};
        for (int k = 0; k < bits.length; k++) {
            Check.same("with " + bits[k], Check.broughtBack(x, bits[k]), due[k] + " 0 0");
        }
    }

    private static void halfOfThePlane() {
        Check.sentence("Terms", "and, if k is above 0, half of 2 to the power of k more");
        Check.same("k is 0", Check.broughtBack(haar(0, 1, -1, 0, 0), 10), "1 -1 0 0");
        Check.same("k is 1", Check.broughtBack(haar(0, 2, -2, 0, 0), 10), "3 -3 0 0");
        Check.same("k is 2", Check.broughtBack(haar(0, 4, -7, 0, 0), 10), "6 -6 0 0");
        Check.same("k is 16", Check.broughtBack(haar(0, 65536, -100000, 0, 0), 10),
                "98304 -98304 0 0");
        Check.same("k is 0 at last", Check.broughtBack(haar(0, 2, -3, 0, 0), 16), "2 -3 0 0");
    }

    private static void oneWithoutSign() {
        Check.sentence("Terms", "A number whose 1 was read, but whose sign was not, counts as 0.");
        Check.same("the first number", Check.broughtBack(haar(0, -9, 0, 0, 0), 7), "0 0 0 0");
        Check.same("its sign", Check.broughtBack(haar(0, -9, 0, 0, 0), 8), "-12 0 0 0");
        Check.same("the second number", Check.broughtBack(haar(0, 9, 9, 0, 0), 9), "12 0 0 0");
        Check.same("its sign, too", Check.broughtBack(haar(0, 9, 9, 0, 0), 10), "12 12 0 0");
        Check.same("in the plane 0", Check.broughtBack(haar(0, 0, 0, 0, 1), 10), "0 0 0 0");
        Check.same("in the plane 0 with its sign", Check.broughtBack(haar(0, 0, 0, 0, 1), 11),
                "0 0 0 1");
    }

    private static void everyCut() {
        Check.sentence("Terms", "reading some of the first bits, as far as they go");
        // 5, 0, -2, 1 in one leaf each, the last two in one: each cut of the code.
        LiftingWorkshop x = haar(2, 5, 0, -2, 1);
        Check.same("the code", Check.code(x), "000011"
                + "10" + "00"
                + "01" + "11" + "0" + "0"
                + "01" + "10" + "1" + "0");
        int[] from = {0, 8, 14, 16, 20, 21, 22};
        int[][] known = {{0, 0, 0, 0}, {6, 0, 0, 0}, {6, 0, -3, 0}, {5, 0, -3, 0}, {5, 0, -3, 1},
            {5, 0, -3, 1}, {5, 0, -2, 1}};
        for (int k = 0; k < from.length; k++) {
            LiftingWorkshop due = haar(2, known[k]);
            int end = k + 1 < from.length ? from[k + 1] : 30;
            for (int bits = from[k]; bits < end; bits++) {
                Check.same("with " + bits, Check.broughtBack(x, bits), Check.samples(due));
            }
        }
    }

    private static void samplesBroughtBack() {
        Check.sentence("Terms",
                "The samples that are brought back are what the root holds when these numbers are joined.");
        for (int wavelet = 0; wavelet <= 2; wavelet++) {
            for (int splits = 0; splits <= 3; splits++) {
                LiftingWorkshop x = Check.bands(wavelet, splits, 64, 0, 0, 0, 0, 0, 0, -64);
                LiftingWorkshop some = Check.bands(wavelet, splits, 96, 0, 0, 0, 0, 0, 0, 0);
                LiftingWorkshop more = Check.bands(wavelet, splits, 96, 0, 0, 0, 0, 0, 0, -96);
                String code = Check.code(x);
                int last = code.indexOf("11", 8);
                Check.same("the first number", Check.broughtBack(x, 8), Check.samples(some));
                Check.same("the last one, but no sign", Check.broughtBack(x, last + 1),
                        Check.samples(some));
                Check.same("both numbers", Check.broughtBack(x, last + 2), Check.samples(more));
                Check.same("all bits", Check.broughtBack(x, code.length()), Check.samples(x));
            }
        }
    }
}
