/** Brings objects to the bounds that the document tells, in few of their 512 calls. */
final class Full {
    static final int NODES = 50, CELLS = 64, ROWS = 40, PLAYERS = 8, PAIRS = 40, TOKENS = 200, MERGES = 60;

    private Full() {
    }

    /** Leaves of one cell until there are so many nodes. */
    static void nodes(PlainLearner x, int many) {
        while (x.count(0) < many) {
            x.leaf(0, 0, 0, 0);
        }
    }

    static void rows(PlainLearner x, int many) {
        for (int k = 0; k < many; k++) {
            x.row(k, -k, k % 3, 7, k % 4);
        }
    }

    static void pairs(PlainLearner x, int many) {
        for (int k = 0; k < many; k++) {
            x.pair(k * 7 % 11, k % 3 == 0);
        }
    }

    static void text(PlainLearner x, int many) {
        for (int k = 0; k < many; k += 8) {
            x.feed(Check.bytes("abcdefgh"), Math.min(8, many - k));
        }
    }

    /** Each of them is learned of a text of its own; no pair stands twice in the last one. */
    static void merges(PlainLearner x, int many) {
        for (int k = 0; k < many; k++) {
            x.empty();
            x.feed(Check.bytes("abab"), 4);
            x.merge();
        }
    }
}
