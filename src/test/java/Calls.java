/** The calls of the face by number, made of the program or of the plain model. */
final class Calls {
    static final String[] NAMES = {"begin", "setSample", "sample", "length", "setWavelet",
        "split", "join", "isNode", "isLeaf", "leaves", "leafAt", "costOf", "chooseBasis", "sizeOf",
        "number", "setNumber", "filtered", "hard", "soft", "risk", "bestThreshold", "isPyramid",
        "bits", "bitAt", "broughtBack", "errorWith", "bitsFor"};

    private Calls() {
    }

    interface Answer {
        long give();
    }

    static String answer(Answer answer) {
        try {
            return Long.toString(answer.give());
        } catch (RuntimeException e) {
            return e.getClass().getSimpleName();
        }
    }

    static long ofProgram(LiftingWorkshop x, int call, int[] g) {
        return switch (NAMES[call]) {
            case "begin" -> x.begin(g[0]);
            case "setSample" -> x.setSample(g[0], g[1]);
            case "sample" -> x.sample(g[0]);
            case "length" -> x.length();
            case "setWavelet" -> x.setWavelet(g[0]);
            case "split" -> x.split(g[0]);
            case "join" -> x.join(g[0]);
            case "isNode" -> x.isNode(g[0]) ? 1 : 0;
            case "isLeaf" -> x.isLeaf(g[0]) ? 1 : 0;
            case "leaves" -> x.leaves();
            case "leafAt" -> x.leafAt(g[0]);
            case "costOf" -> x.costOf(g[0]);
            case "chooseBasis" -> x.chooseBasis(g[0]);
            case "sizeOf" -> x.sizeOf(g[0]);
            case "number" -> x.number(g[0], g[1]);
            case "setNumber" -> x.setNumber(g[0], g[1], g[2]);
            case "filtered" -> x.filtered(g[0], g[1]);
            case "hard" -> x.hard(g[0], g[1]);
            case "soft" -> x.soft(g[0], g[1]);
            case "risk" -> x.risk(g[0], g[1], g[2]);
            case "bestThreshold" -> x.bestThreshold(g[0], g[1]);
            case "isPyramid" -> x.isPyramid() ? 1 : 0;
            case "bits" -> x.bits();
            case "bitAt" -> x.bitAt(g[0]);
            case "broughtBack" -> x.broughtBack(g[0], g[1]);
            case "errorWith" -> x.errorWith(g[0]);
            default -> x.bitsFor(g[0]);
        };
    }

    static long ofModel(PlainModel x, int call, int[] g) {
        return switch (NAMES[call]) {
            case "begin" -> x.begin(g[0]);
            case "setSample" -> x.setSample(g[0], g[1]);
            case "sample" -> x.sample(g[0]);
            case "length" -> x.length();
            case "setWavelet" -> x.setWavelet(g[0]);
            case "split" -> x.split(g[0]);
            case "join" -> x.join(g[0]);
            case "isNode" -> x.isNode(g[0]);
            case "isLeaf" -> x.isLeaf(g[0]);
            case "leaves" -> x.leaves();
            case "leafAt" -> x.leafAt(g[0]);
            case "costOf" -> x.costOf(g[0]);
            case "chooseBasis" -> x.chooseBasis(g[0]);
            case "sizeOf" -> x.sizeOf(g[0]);
            case "number" -> x.number(g[0], g[1]);
            case "setNumber" -> x.setNumber(g[0], g[1], g[2]);
            case "filtered" -> x.filtered(g[0], g[1]);
            case "hard" -> x.hard(g[0], g[1]);
            case "soft" -> x.soft(g[0], g[1]);
            case "risk" -> x.risk(g[0], g[1], g[2]);
            case "bestThreshold" -> x.bestThreshold(g[0], g[1]);
            case "isPyramid" -> x.isPyramid();
            case "bits" -> x.bits();
            case "bitAt" -> x.bitAt(g[0]);
            case "broughtBack" -> x.broughtBack(g[0], g[1]);
            case "errorWith" -> x.errorWith(g[0]);
            default -> x.bitsFor(g[0]);
        };
    }
}
