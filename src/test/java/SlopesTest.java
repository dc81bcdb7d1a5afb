/** Promises 7 and 8: slopes and ways. */
public final class SlopesTest {
    private static final int MIN = Integer.MIN_VALUE, MAX = Integer.MAX_VALUE;

    public static void main(String[] args) {
        ofItself();
        ofTwoNodes();
        ofOneNodeTwice();
        spreadGathers();
        ofMatrices();
        alongSides();
        greatest();
        cellByCell();
        kinks();
        movedCells();
        overSeveralPaths();
        earlierNodeAsALeaf();
        wildSteps();
        wildSums();
        zeroGivesNothing();
        orderOfSums();
        wrongQuestions();
        ways();
        Check.end();
    }

    private static void ofItself() {
        PlainLearner x = new PlainLearner();
        x.leaf(1, 2, 0, 0);
        x.tell(0, 0, 1, 0);
        x.act(3, 0, 0);
        Check.slope(x, 0, 0, 0, 1, 1);
        Check.slope(x, 1, 1, 1, 1, 1);
    }

    private static void ofTwoNodes() {
        PlainLearner x = new PlainLearner();
        x.leaf(0, 0, 0, 0);
        x.leaf(0, 0, 0, 0);
        x.tell(0, 0, 3, 1);
        x.tell(1, 0, -2, 5);
        long[][] byA = {{1, 1}, {1, 1}, {-2, 5}, {-5, 2}};
        long[][] byB = {{1, 1}, {-1, 1}, {3, 1}, {-75, 4}};
        for (int op = 0; op <= 3; op++) {
            int node = x.act(op, 0, 1);
            Check.slope(x, node, 0, 0, byA[op][0], byA[op][1]);
            Check.slope(x, node, 1, 0, byB[op][0], byB[op][1]);
        }
    }

    private static void ofOneNodeTwice() {
        PlainLearner x = new PlainLearner();
        x.leaf(0, 0, 0, 0);
        x.tell(0, 0, 3, 1);
        long[] want = {2, 0, 6, 0};
        for (int op = 0; op <= 3; op++) {
            Check.slope(x, x.act(op, 0, 0), 0, 0, want[op], 1);
        }
    }

    private static void spreadGathers() {
        PlainLearner x = new PlainLearner();
        x.leaf(2, 2, 1, 0);
        Check.tell(x, 0, 10, 20);
        int row = Check.row(x, 1, 2, 3);
        int node = x.act(2, 0, row);
        Check.slope(x, node, 0, 0, 6, 1);
        Check.slope(x, node, 0, 1, 6, 1);
        Check.slope(x, node, row, 2, 30, 1);
        int over = x.act(3, row, 0);
        Check.slope(x, over, row, 0, 3, 20);
        Check.slope(x, over, 0, 1, -3, 200);
    }

    private static void ofMatrices() {
        PlainLearner x = new PlainLearner();
        x.leaf(2, 2, 3, 0);
        x.leaf(2, 3, 2, 0);
        Check.tell(x, 0, 1, 2, 3, 4, 5, 6);
        Check.tell(x, 1, 7, 8, 9, 10, 11, 12);
        int node = x.act(4, 0, 1);
        long[] byA = {15, 19, 23, 15, 19, 23};
        long[] byB = {5, 5, 7, 7, 9, 9};
        for (int i = 0; i < 6; i++) {
            Check.slope(x, node, 0, i, byA[i], 1);
            Check.slope(x, node, 1, i, byB[i], 1);
        }
        x.leaf(2, 2, 2, 0);
        Check.tell(x, 3, 1, 2, 3, 4);
        int square = x.act(4, 3, 3);
        long[] want = {3 + 4, 7 + 4, 3 + 6, 7 + 6};
        for (int i = 0; i < 4; i++) {
            Check.slope(x, square, 3, i, want[i], 1);
        }
    }

    private static void alongSides() {
        PlainLearner x = new PlainLearner();
        x.leaf(2, 2, 3, 0);
        Check.tell(x, 0, 1, 2, 3, 4, 5, 6);
        int sums = x.act(5, 0, 1);
        int squares = x.act(13, sums, 0);
        Check.slope(x, squares, 0, 1, 12, 1);
        Check.slope(x, squares, 0, 5, 30, 1);
        int means = x.act(6, 0, 0);
        int more = x.act(13, means, 0);
        Check.slope(x, more, 0, 0, 5, 2);
        Check.slope(x, more, 0, 5, 9, 2);
        int mean3 = x.act(6, 0, 1);
        Check.slope(x, mean3, 0, 4, 1, 3);
        Check.slope(x, x.act(15, squares, 0), 0, 5, 30, 1);
    }

    private static void greatest() {
        PlainLearner x = new PlainLearner();
        x.leaf(2, 2, 3, 0);
        Check.tell(x, 0, 1, 7, 7, 9, 4, 9);
        int node = x.act(13, x.act(7, 0, 1), 0);
        long[] want = {0, 14, 0, 18, 0, 0};
        for (int i = 0; i < 6; i++) {
            Check.slope(x, node, 0, i, want[i], 1);
        }
        int down = x.act(7, 0, 0);
        long[] wantDown = {0, 1, 0, 1, 0, 1};
        for (int i = 0; i < 6; i++) {
            Check.slope(x, down, 0, i, wantDown[i], 1);
        }
        int front = Check.row(x, 8, 8, 1);
        int first = x.act(7, front, 0);
        Check.slope(x, first, front, 0, 1, 1);
        Check.slope(x, first, front, 1, 0, 1);
        // One that is WILD makes its row's GREATEST WILD, and the slopes of all of that row.
        x.tell(0, 1, 1, 0);
        for (int i = 0; i < 3; i++) {
            Check.slope(x, x.node(node, 6), 0, i, 0, 0);
        }
        Check.slope(x, x.node(node, 6), 0, 3, 1, 1);
        Check.slope(x, x.node(node, 6), 0, 4, 0, 1);
    }

    private static void cellByCell() {
        PlainLearner x = new PlainLearner();
        x.leaf(1, 2, 0, 0);
        x.tell(0, 0, -2, 3);
        x.tell(0, 1, 5, 1);
        Check.slope(x, x.act(10, 0, 0), 0, 0, -1, 1);
        Check.slope(x, x.act(13, 0, 0), 0, 0, -4, 3);
        Check.slope(x, x.act(13, 0, 0), 0, 1, 10, 1);
    }

    private static void kinks() {
        PlainLearner x = new PlainLearner();
        int row = Check.row(x, -2, 0, 5, 1, -1);
        int above = x.act(11, row, 0);
        int size = x.act(12, row, 0);
        long[] wantAbove = {0, 0, 1, 1, 0};
        long[] wantSize = {-1, 0, 1, 1, -1};
        for (int i = 0; i < 5; i++) {
            Check.slope(x, above, row, i, wantAbove[i], 1);
            Check.slope(x, size, row, i, wantSize[i], 1);
        }
    }

    private static void movedCells() {
        PlainLearner x = new PlainLearner();
        x.leaf(2, 2, 3, 0);
        Check.tell(x, 0, 1, 2, 3, 4, 5, 6);
        int pick = x.act(8, 0, 1);
        int weights = Check.row(x, 10, 20, 30);
        int picked = x.act(2, pick, weights);
        long[] want = {0, 0, 0, 10, 20, 30};
        for (int i = 0; i < 6; i++) {
            Check.slope(x, picked, 0, i, want[i], 1);
        }
        int turned = x.act(9, 0, 0);
        int pair = Check.row(x, 7, 8);
        int weighted = x.act(2, turned, pair);
        Check.slope(x, weighted, 0, 2, 7, 1);
        Check.slope(x, weighted, 0, 3, 8, 1);
        int flat = x.act(14, 0, 0);
        int six = Check.row(x, 1, 2, 3, 4, 5, 6);
        Check.slope(x, x.act(2, flat, six), 0, 4, 5, 1);
    }

    private static void overSeveralPaths() {
        PlainLearner x = new PlainLearner();
        x.leaf(0, 0, 0, 0);
        x.tell(0, 0, 2, 1);
        int square = x.act(13, 0, 0);
        int cube = x.act(2, square, 0);
        int both = x.act(0, cube, square);
        Check.slope(x, both, 0, 0, 3 * 4 + 2 * 2, 1);
    }

    private static void earlierNodeAsALeaf() {
        PlainLearner x = new PlainLearner();
        x.leaf(0, 0, 0, 0);
        x.tell(0, 0, 3, 1);
        int square = x.act(13, 0, 0);
        int also = x.act(2, square, 0);
        Check.slope(x, also, square, 0, 3, 1);
        Check.slope(x, also, also, 0, 1, 1);
        int apart = x.leaf(0, 0, 0, 0);
        int far = x.act(10, apart, 0);
        Check.slope(x, far, 0, 0, 0, 1);
        Check.slope(x, far, square, 0, 0, 1);
    }

    private static void wildSteps() {
        PlainLearner x = new PlainLearner();
        x.leaf(0, 0, 0, 0);
        x.leaf(0, 0, 0, 0);
        x.tell(0, 0, 1, 0);
        x.tell(1, 0, 3, 1);
        Check.slope(x, x.act(0, 0, 1), 1, 0, 1, 1);
        Check.slope(x, x.act(0, 0, 1), 0, 0, 1, 1);
        Check.slope(x, x.act(1, 1, 0), 0, 0, -1, 1);
        Check.slope(x, x.act(2, 0, 1), 1, 0, 0, 0);
        Check.slope(x, x.act(2, 0, 1), 0, 0, 3, 1);
        Check.slope(x, x.act(3, 0, 1), 0, 0, 1, 3);
        Check.slope(x, x.act(3, 0, 1), 1, 0, 0, 0);
        Check.slope(x, x.act(3, 1, 0), 1, 0, 0, 0);
        Check.slope(x, x.act(10, 0, 0), 0, 0, -1, 1);
        for (int op = 11; op <= 13; op++) {
            Check.slope(x, x.act(op, 0, 0), 0, 0, 0, 0);
        }
        Check.slope(x, x.act(14, 0, 0), 0, 0, 1, 1);
        Check.slope(x, x.act(15, 0, 0), 0, 0, 1, 1);
        // a / b has no room, though (a / b) / b would have.
        x.tell(0, 0, MAX, 1);
        x.tell(1, 0, 1, 2);
        int over = x.act(3, 0, 1);
        Check.slope(x, over, 1, 0, 0, 0);
        Check.slope(x, over, 0, 0, 2, 1);
    }

    /** A SUM that is WILD gives WILD also where the step's own is 0. */
    private static void wildSums() {
        PlainLearner x = new PlainLearner();
        int row = Check.row(x, -1, 0, 2);
        int above = x.act(11, row, 0);
        x.leaf(0, 0, 0, 0);
        x.tell(2, 0, 1, 0);
        int wild = x.act(2, above, 2);
        for (int i = 0; i < 3; i++) {
            Check.slope(x, wild, row, i, 0, 0);
        }
        int greatest = x.act(7, row, 0);
        int also = x.act(2, greatest, 2);
        for (int i = 0; i < 3; i++) {
            Check.slope(x, also, row, i, 0, 0);
        }
    }

    private static void zeroGivesNothing() {
        PlainLearner x = new PlainLearner();
        x.leaf(0, 0, 0, 0);
        x.leaf(0, 0, 0, 0);
        // Node 2 is WILD and so are its steps, but its SUM is 0.
        int over = x.act(3, 0, 1);
        int none = x.leaf(0, 0, 0, 0);
        int times = x.act(2, over, none);
        Check.slope(x, times, over, 0, 0, 1);
        Check.slope(x, times, 0, 0, 0, 1);
        Check.slope(x, times, 1, 0, 0, 1);
        Check.slope(x, times, none, 0, 0, 0);
        // Sums that cancel out are 0 as well.
        int gone = x.act(1, over, over);
        Check.slope(x, gone, 1, 0, 0, 1);
    }

    /** What is added to a CELL passes the room on its way or not, by the order told. */
    private static void orderOfSums() {
        PlainLearner x = new PlainLearner();
        x.leaf(0, 0, 0, 0);
        int three = Check.row(x, MAX, 1, -1);
        int up = x.act(2, 0, three);
        Check.slope(x, up, 0, 0, 0, 0);
        Check.tell(x, three, MAX, -1, 1);
        Check.slope(x, up, 0, 0, MAX, 1);
        // Later nodes give first: MAX and 1 from the last two, then - 1.
        PlainLearner y = new PlainLearner();
        y.leaf(0, 0, 0, 0);
        y.leaf(1, 3, 0, 0);
        Check.tell(y, 1, -1, 1, MAX);
        int[] parts = new int[3];
        for (int k = 0; k < 3; k++) {
            parts[k] = y.act(2, 0, y.act(8, 1, k));
        }
        int sum = y.act(0, y.act(0, parts[0], parts[1]), parts[2]);
        Check.slope(y, sum, 0, 0, 0, 0);
        Check.tell(y, 1, 1, -1, MAX);
        Check.slope(y, sum, 0, 0, MAX, 1);
        matrixOrder();
    }

    /**
     * In A @ A, A having the cells p q / r s, the slope by q gathers r, then p (k = 0, as b's) and s
     * (k = 1, as a's), then r.
     */
    private static void matrixOrder() {
        PlainLearner x = new PlainLearner();
        x.leaf(2, 2, 2, 0);
        int square = x.act(4, 0, 0);
        Check.tell(x, 0, -MAX, 0, 1 << 30, 1 << 30);
        Check.slope(x, square, 0, 1, (1 << 30) + 1, 1);
        Check.tell(x, 0, 1 << 30, 0, 1 << 30, -MAX);
        Check.slope(x, square, 0, 1, 0, 0);
    }

    private static void wrongQuestions() {
        PlainLearner x = new PlainLearner();
        x.leaf(1, 2, 0, 0);
        x.act(15, 0, 0);
        int[][] wrong = {{0, 1, 0, 0}, {2, 0, 0, 0}, {-1, 0, 0, 0}, {1, -1, 0, 0}, {1, 2, 0, 0}, {1, 0, -1, 0},
            {1, 0, 2, 0}, {1, 1, 1, 0}, {1, 0, 0, -1}, {1, 0, 0, 2}, {MIN, MIN, MIN, MIN}, {MAX, MAX, MAX, MAX}};
        for (int[] w : wrong) {
            Check.due("slope(" + w[0] + ", " + w[1] + ", " + w[2] + ", " + w[3] + ")",
                    x.slope(w[0], w[1], w[2], w[3]), Check.BAD_FRACTION);
        }
    }

    private static void ways() {
        PlainLearner x = new PlainLearner();
        x.leaf(0, 0, 0, 0);
        x.leaf(0, 0, 0, 0);
        Check.due("ways(0, 0)", x.ways(0, 0), 1);
        Check.due("ways(1, 0)", x.ways(1, 0), 0);
        int both = x.act(0, 0, 0);
        Check.due("ways(2, 0)", x.ways(both, 0), 2);
        Check.due("ways(2, 1)", x.ways(both, 1), 0);
        int third = x.act(2, both, 0);
        Check.due("ways(3, 0)", x.ways(third, 0), 3);
        // The number of an act is no node.
        int pick = x.act(5, x.act(14, third, 0), 0);
        Check.due("ways(5, 0)", x.ways(pick, 0), 3);
        Check.due("ways(5, 3)", x.ways(pick, third), 1);
        int[][] wrong = {{0, 1}, {3, 4}, {-1, 0}, {0, -1}, {6, 0}, {MIN, MIN}, {MAX, 0}, {0, MAX}};
        for (int[] w : wrong) {
            Check.due("ways(" + w[0] + ", " + w[1] + ")", x.ways(w[0], w[1]), -1);
        }
        PlainLearner y = new PlainLearner();
        y.leaf(0, 0, 0, 0);
        for (int k = 0; k < 49; k++) {
            y.act(1, k, k);
        }
        Check.due("ways(49, 0)", y.ways(49, 0), 1L << 49);
        Check.due("ways(49, 48)", y.ways(49, 48), 2);
    }
}
