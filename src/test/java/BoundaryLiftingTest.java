/** 'Terms' of lifting: a test for each sentence that names a boundary case. */
public final class BoundaryLiftingTest {
    public static void main(String[] args) {
        evensAndOdds();
        allPlaces();
        edgesOfFiveThree();
        edgesOfNineSeven();
        edgesOfOnePair();
        joinTakesBack();
        joinAtEdges();
        floorRoundsDown();
        haarSteps();
        fiveThreeSteps();
        nineSevenRounds();
        nineSevenRoundsAtTheHalf();
        Check.end();
    }

    /** What the root becomes when it is split: its low band, and its high one. */
    private static String split(int wavelet, int... numbers) {
        LiftingWorkshop x = Check.bands(wavelet, 0, numbers);
        x.split(1);
        return Check.numbers(x, 2) + " | " + Check.numbers(x, 3);
    }

    /** What two numbers become when they are split. */
    private static String splitPair(int wavelet, int even, int odd) {
        LiftingWorkshop x = Check.bands(wavelet, 1, even, odd, 0, 0);
        x.split(2);
        return Check.numbers(x, 4) + " | " + Check.numbers(x, 5);
    }

    /** What the root holds when these numbers of its two bands are joined. */
    private static String join(int wavelet, int... bands) {
        LiftingWorkshop x = Check.bands(wavelet, 1, bands);
        x.join(1);
        return Check.numbers(x, 1);
    }

    private static String joinPair(int wavelet, int low, int high) {
        LiftingWorkshop x = Check.bands(wavelet, 2, low, high, 0, 0);
        x.join(2);
        return Check.numbers(x, 2);
    }

    private static void evensAndOdds() {
        Check.sentence("Terms", "its numbers at the places 0, 2, 4 and so on become the evens e,"
                + " those at 1, 3, 5 the odds o, h of each");
        Check.same("eight numbers", split(0, 10, 10, 20, 22, 30, 34, 40, 46),
                "10 21 32 43 | 0 2 4 6");
        Check.same("four numbers", split(0, 10, 10, 20, 22), "10 21 | 0 2");
        Check.same("two numbers", splitPair(0, 20, 22), "21 | 2");
    }

    private static void allPlaces() {
        Check.sentence("Terms", "each for all k from 0 to h - 1; then the evens are the low band, the"
                + " odds the high band");
        for (int wavelet = 0; wavelet <= 2; wavelet++) {
            for (int length = 4; length <= 32; length *= 2) {
                int[] same = new int[length];
                java.util.Arrays.fill(same, 16);
                LiftingWorkshop x = Check.bands(wavelet, 0, same);
                x.split(1);
                for (int k = 0; k < length / 2; k++) {
                    Check.same("low " + k, x.number(2, k), wavelet == 2 ? 20 : 16);
                    Check.same("high " + k, x.number(3, k), 0);
                }
            }
        }
    }

    private static void edgesOfFiveThree() {
        Check.sentence("Terms", "Where a step names e[h], e[h - 1] is meant, and o[0] for o[-1]");
        // Odds: -floor(100 / 2), -floor((100 + 100) / 2); evens: floor((-50 - 50 + 2) / 4),
        // 100 + floor((-50 - 100 + 2) / 4).
        Check.same("the last even again", split(1, 0, 0, 100, 0), "-25 63 | -50 -100");
        // Evens: floor((100 + 100 + 2) / 4), floor((100 + 0 + 2) / 4).
        Check.same("the first odd again", split(1, 0, 100, 0, 0), "50 25 | 100 0");
        Check.same("the first even is not met at the end", split(1, 100, 0, 0, 0, 0, 0, 0, 0),
                "75 -12 0 0 | -50 0 0 0");
        Check.same("the last odd is not met at the start", split(1, 0, 0, 0, 0, 0, 0, 0, 100),
                "0 0 0 25 | 0 0 0 100");
    }

    private static void edgesOfNineSeven() {
        Check.sentence("Terms", "Where a step names e[h], e[h - 1] is meant, and o[0] for o[-1]");
        // Odds -159 -317, evens 17 125, odds -159 + 125 and -317 + 221, evens 17 - 30, 125 - 58.
        Check.same("the last even again", split(2, 0, 0, 100, 0), "-13 67 | -34 -96");
        // Odds 100 0, evens -11 -5, odds 100 - 14 and -9, evens -11 + 76 and -5 + 34.
        Check.same("the first odd again", split(2, 0, 100, 0, 0), "65 29 | 86 -9");
        Check.same("eight numbers, the last even", split(2, 0, 0, 0, 0, 0, 0, 100, 0),
                "0 3 -8 64 | 0 7 -42 -96");
        Check.same("eight numbers, the first odd", split(2, 0, 100, 0, 0, 0, 0, 0, 0),
                "65 31 -2 0 | 86 -4 0 0");
        Check.same("the first even is not met at the end", split(2, 100, 0, 0, 0, 0, 0, 0, 0),
                "74 -11 3 0 | -49 7 0 0");
        Check.same("the last odd is not met at the start", split(2, 0, 0, 0, 0, 0, 0, 0, 100),
                "0 0 -2 34 | 0 0 -4 91");
    }

    private static void edgesOfOnePair() {
        Check.sentence("Terms", "so a signal goes on at its edges by symmetry");
        // With one even and one odd both edges are met at once.
        Check.same("5/3, an even", splitPair(1, 100, 0), "50 | -100");
        Check.same("5/3, an odd", splitPair(1, 0, 100), "50 | 100");
        Check.same("9/7, an even", splitPair(2, 100, 0), "63 | -80");
        Check.same("9/7, an odd", splitPair(2, 0, 100), "61 | 81");
    }

    private static void joinTakesBack() {
        Check.sentence("Terms", "To join a node, the same steps are taken back in reverse order.");
        int[] wild = {100000, -99999, 1, -1, 0, -100000, 54321, 7, 100000, 100000, -3, 2, 0, 0, 5,
            -100000, -100000, 99999, -65536, 65535, 3, -3, 31415, -27182, 1, 1, 1, 0, 0, -1, 12, 13};
        for (int wavelet = 0; wavelet <= 2; wavelet++) {
            for (int length = 4; length <= 32; length *= 2) {
                int[] row = java.util.Arrays.copyOf(wild, length);
                LiftingWorkshop x = Check.bands(wavelet, 0, row);
                String before = Check.numbers(x, 1);
                for (int node = 1; node < (length == 4 ? 4 : 8); node++) {
                    x.split(node);
                }
                x.join(1);
                Check.same("split and joined, wavelet " + wavelet, Check.numbers(x, 1), before);
                LiftingWorkshop y = Check.bands(wavelet, 1, row);
                before = Check.numbers(y, 2) + " " + Check.numbers(y, 3);
                y.join(1);
                y.split(1);
                Check.same("joined and split, wavelet " + wavelet,
                        Check.numbers(y, 2) + " " + Check.numbers(y, 3), before);
            }
        }
    }

    private static void joinAtEdges() {
        Check.sentence("Terms", "To join a node, the same steps are taken back in reverse order.");
        Check.same("Haar, a low number", join(0, 100, 0, 0, 0), "100 100 0 0");
        Check.same("Haar, a high number", join(0, 0, 0, 0, -1), "0 0 1 0");
        Check.same("5/3, the last low number", join(1, 0, 100, 0, 0), "0 50 100 100");
        Check.same("5/3, the first high number", join(1, 0, 0, 100, 0), "-50 62 -25 -25");
        Check.same("5/3, the first low number", join(1, 100, 0, 0, 0), "100 50 0 0");
        Check.same("5/3, the last high number", join(1, 0, 0, 0, 100), "0 -13 -25 75");
        Check.same("9/7, the last low number", join(2, 0, 100, 0, 0), "-9 34 86 96");
        Check.same("9/7, the first high number", join(2, 0, 0, 100, 0), "-66 68 -28 -11");
        Check.same("9/7, the first low number", join(2, 100, 0, 0, 0), "91 48 -5 -16");
        Check.same("9/7, the last high number", join(2, 0, 0, 0, 100), "4 -7 -33 73");
        Check.same("5/3, one pair", joinPair(1, 0, 100), "-50 50");
        Check.same("9/7, one pair", joinPair(2, 0, 100), "-62 60");
        Check.same("9/7, one pair of a low number", joinPair(2, 100, 0), "81 80");
    }

    private static void floorRoundsDown() {
        Check.sentence("Terms", "floor(a / b) rounds down, also below 0");
        Check.same("Haar, floor(-1 / 2)", splitPair(0, 0, -1), "-1 | -1");
        Check.same("Haar, floor(1 / 2)", splitPair(0, 0, 1), "0 | 1");
        Check.same("Haar, floor(-3 / 2)", splitPair(0, 3, 0), "1 | -3");
        Check.same("Haar taken back, floor(-1 / 2)", joinPair(0, 0, -1), "1 0");
        Check.same("5/3, floor(-1 / 2)", split(1, -1, 0, 0, 0), "0 0 | 1 0");
        Check.same("5/3, floor(1 / 2)", split(1, 1, 0, 0, 0), "1 0 | 0 0");
        Check.same("5/3, floor(-2 / 4)", splitPair(1, 0, -2), "-1 | -2");
        Check.same("5/3, floor(-1 / 4)", split(1, 0, -1, 0, -2), "0 -1 | -1 -2");
        // The odd becomes floor(-4449 / 4096) = -2, then -1; the even 1, then 1 + floor(-1586 / 4096).
        Check.same("9/7, the first and the last step", split(2, 1, 0, 0, 0), "0 0 | -1 0");
        // The even becomes floor((-217 * 10 + 2048) / 4096) = -1, the odd 5 + floor(-5184 / 4096).
        Check.same("9/7, the second and the third step", splitPair(2, 0, 5), "2 | 3");
    }

    private static void haarSteps() {
        Check.sentence("Terms",
                "o[k] becomes o[k] - e[k]; then e[k] becomes e[k] + floor(o[k] / 2).");
        Check.same("numbers of one place only", split(0, 100, 0, 0, 0, 0, 100, 0, 0),
                "50 0 50 0 | -100 0 100 0");
        Check.same("the greatest", splitPair(0, -100000, 100000), "0 | 200000");
        Check.same("the least", splitPair(0, 100000, -100000), "0 | -200000");
    }

    private static void fiveThreeSteps() {
        Check.sentence("Terms", "then e[k] becomes e[k] + floor((o[k - 1] + o[k] + 2) / 4)");
        Check.same("floor(3 / 4)", split(1, 0, 0, 0, 1), "0 0 | 0 1");
        Check.same("floor(4 / 4)", split(1, 0, 1, 0, 1), "1 1 | 1 1");
        Check.same("floor(0 / 4)", split(1, 0, -1, 0, -1), "0 0 | -1 -1");
        Check.same("the greatest", split(1, -100000, 100000, -100000, 100000),
                "0 0 | 200000 200000");
    }

    private static void nineSevenRounds() {
        Check.sentence("Terms",
                "o[k] becomes o[k] + floor((-6497 * (e[k] + e[k + 1]) + 2048) / 4096)");
        // Here each factor and each 2048 must be just what it is.
        Check.same("great numbers", splitPair(2, 2514, -2423), "56 | -4013");
        Check.same("the greatest", splitPair(2, 100000, -99999), "-65 | -162616");
        Check.same("first step", split(2, 512, -302, 161, -363), "175 -129 | -543 -380");
        Check.same("second step", split(2, 1000, -864, 635, -824), "127 -153 | -1397 -1129");
        Check.same("fourth step", split(2, -922, 411, -599, -779), "-305 -486 | 1033 -306");
    }

    private static void nineSevenRoundsAtTheHalf() {
        Check.sentence("Terms", "e[k] becomes e[k] + floor((-217 * (o[k - 1] + o[k]) + 2048) / 4096)");
        // An exact half is rounded up, below 0, too.
        Check.same("first step, -3248.5", splitPair(2, 1024, 0), "629 | -833");
        Check.same("first step, 3248.5", splitPair(2, -1024, 0), "-628 | 834");
        Check.same("second step", splitPair(2, 645, -1026), "-234 | -1358");
        Check.same("fourth step, 908.5", splitPair(2, 413, 1674), "1283 | 1024");
    }
}
