/** Promises 2 to 6: leaves, what they are told, acts, what a node is, values. */
public final class NodesTest {
    private static final int MIN = Integer.MIN_VALUE, MAX = Integer.MAX_VALUE;

    public static void main(String[] args) {
        leaves();
        wrongLeaves();
        fullOfNodes();
        toldFractions();
        wrongTells();
        spread();
        spreadThatDoesNotFit();
        matrices();
        alongSides();
        pickAndTurn();
        cellByCell();
        wrongActs();
        whatANodeIs();
        wrongQuestions();
        roomOfFractions();
        wildIsCatching();
        valuesFollowTheLeaves();
        Check.end();
    }

    private static void leaves() {
        PlainLearner x = new PlainLearner();
        Check.due("leaf(0, 0, -5, 99)", x.leaf(0, 0, -5, 99), 0);
        Check.due("leaf(1, 64, 0, 0)", x.leaf(1, 64, 0, 0), 1);
        Check.due("leaf(2, 4, 16, -1)", x.leaf(2, 4, 16, -1), 2);
        Check.due("leaf(3, 4, 4, 4)", x.leaf(3, 4, 4, 4), 3);
        Check.sides(x, 0);
        Check.sides(x, 1, 64);
        Check.sides(x, 2, 4, 16);
        Check.sides(x, 3, 4, 4, 4);
        Check.value(x, 0, 0, 0, 1);
        Check.value(x, 3, 63, 0, 1);
    }

    private static void wrongLeaves() {
        PlainLearner x = new PlainLearner();
        int[][] bad = {{-1, 1, 1, 1}, {4, 1, 1, 1}, {1, 0, 1, 1}, {1, 65, 1, 1}, {2, 3, 0, 1}, {2, 1, 65, 1},
            {3, 1, 1, 0}, {3, 64, 64, 65}, {3, MIN, 1, 1}, {3, MAX, MAX, MAX}, {MIN, 1, 1, 1}, {MAX, 1, 1, 1}};
        for (int[] b : bad) {
            Check.due("leaf(" + b[0] + ", ..)", x.leaf(b[0], b[1], b[2], b[3]), -1);
        }
        Check.due("leaf(2, 5, 13, 0)", x.leaf(2, 5, 13, 0), -3);
        Check.due("leaf(3, 64, 64, 64)", x.leaf(3, 64, 64, 64), -3);
        Check.due("leaf(3, 1, 65, 64)", x.leaf(3, 1, 65, 64), -1);
        Check.due("count(0)", x.count(0), 0);
    }

    private static void fullOfNodes() {
        PlainLearner x = new PlainLearner();
        for (int k = 0; k < 49; k++) {
            Check.due("leaf", x.leaf(0, 0, 0, 0), k);
        }
        Check.due("act(10, 48, 0)", x.act(10, 48, 0), 49);
        Check.due("leaf(0, 0, 0, 0)", x.leaf(0, 0, 0, 0), -3);
        Check.due("act(10, 49, 0)", x.act(10, 49, 0), -3);
        Check.due("leaf(4, 0, 0, 0)", x.leaf(4, 0, 0, 0), -1);
        Check.due("act(16, 0, 0)", x.act(16, 0, 0), -1);
        Check.due("act(4, 0, 1)", x.act(4, 0, 1), -1);
        Check.due("act(10, 50, 0)", x.act(10, 50, 0), -1);
        Check.due("count(0)", x.count(0), 50);
    }

    private static void toldFractions() {
        PlainLearner x = new PlainLearner();
        x.leaf(0, 0, 0, 0);
        long[][] told = {{6, 4, 3, 2}, {-6, 4, -3, 2}, {6, -4, -3, 2}, {-6, -4, 3, 2}, {0, 7, 0, 1}, {0, -7, 0, 1},
            {MAX, 1, MAX, 1}, {-MAX, 1, -MAX, 1}, {MIN, 2, -(1 << 30), 1}, {MIN, -2, 1 << 30, 1}, {1, MAX, 1, MAX},
            {2, MIN, -1, 1 << 30}, {MIN, MIN, 1, 1}, {0, MIN, 0, 1}};
        for (long[] t : told) {
            Check.due("tell(0, 0, " + t[0] + ", " + t[1] + ")", x.tell(0, 0, (int) t[0], (int) t[1]), 0);
            Check.value(x, 0, 0, t[2], t[3]);
        }
        int[][] wild = {{1, 0}, {0, 0}, {MIN, 1}, {MIN, -1}, {MIN, 3}, {1, MIN}, {3, MIN}, {MIN, 0}};
        for (int[] t : wild) {
            Check.due("tell(0, 0, 1, 1)", x.tell(0, 0, 1, 1), 0);
            Check.due("tell(0, 0, " + t[0] + ", " + t[1] + ")", x.tell(0, 0, t[0], t[1]), 1);
            Check.value(x, 0, 0, 0, 0);
        }
    }

    private static void wrongTells() {
        PlainLearner x = new PlainLearner();
        x.leaf(1, 2, 0, 0);
        x.act(10, 0, 0);
        int[][] bad = {{-1, 0}, {2, 0}, {1, 0}, {0, -1}, {0, 2}, {MIN, 0}, {MAX, 0}, {0, MIN}, {0, MAX}};
        for (int[] b : bad) {
            Check.due("tell(" + b[0] + ", " + b[1] + ", 5, 1)", x.tell(b[0], b[1], 5, 1), -1);
            Check.due("tell(" + b[0] + ", " + b[1] + ", 5, 0)", x.tell(b[0], b[1], 5, 0), -1);
        }
        Check.value(x, 0, 0, 0, 1);
        Check.value(x, 0, 1, 0, 1);
    }

    private static void spread() {
        PlainLearner x = new PlainLearner();
        x.leaf(2, 2, 1, 0);
        Check.tell(x, 0, 10, 20);
        int row = Check.row(x, 1, 2, 3);
        Check.due("act(0, 0, 1)", x.act(0, 0, row), 2);
        Check.sides(x, 2, 2, 3);
        long[] plus = {11, 12, 13, 21, 22, 23};
        for (int i = 0; i < 6; i++) {
            Check.value(x, 2, i, plus[i], 1);
        }
        Check.due("act(1, 1, 0)", x.act(1, row, 0), 3);
        Check.value(x, 3, 2, -7, 1);
        Check.value(x, 3, 3, -19, 1);
        Check.due("act(3, 1, 0)", x.act(3, row, 0), 4);
        Check.value(x, 4, 1, 1, 5);
        Check.value(x, 4, 5, 3, 20);
        x.leaf(3, 4, 1, 1);
        Check.tell(x, 5, 1, 2, 3, 4);
        Check.due("act(2, 5, 2)", x.act(2, 5, 2), 6);
        Check.sides(x, 6, 4, 2, 3);
        Check.value(x, 6, 0, 11, 1);
        Check.value(x, 6, 23, 92, 1);
        Check.value(x, 6, 9, 2 * 21, 1);
        x.leaf(0, 0, 0, 0);
        x.tell(7, 0, 1, 2);
        Check.due("act(2, 7, 6)", x.act(2, 7, 6), 8);
        Check.sides(x, 8, 4, 2, 3);
        Check.value(x, 8, 23, 46, 1);
        Check.due("act(0, 7, 7)", x.act(0, 7, 7), 9);
        Check.sides(x, 9);
        Check.value(x, 9, 0, 1, 1);
        x.leaf(3, 1, 2, 1);
        Check.tell(x, 10, 100, 200);
        x.leaf(2, 1, 1, 0);
        x.tell(11, 0, 7, 1);
        Check.due("act(0, 11, 10)", x.act(0, 11, 10), 12);
        Check.sides(x, 12, 1, 2, 1);
        Check.value(x, 12, 1, 207, 1);
    }

    private static void spreadThatDoesNotFit() {
        PlainLearner x = new PlainLearner();
        x.leaf(1, 3, 0, 0);
        x.leaf(1, 2, 0, 0);
        x.leaf(2, 3, 2, 0);
        x.leaf(2, 64, 1, 0);
        x.leaf(1, 64, 0, 0);
        x.leaf(1, 2, 0, 0);
        for (int op = 0; op <= 3; op++) {
            Check.due("act(op, 0, 1)", x.act(op, 0, 1), -1);
            Check.due("act(op, 0, 2)", x.act(op, 0, 2), -1);
            Check.due("act(op, 3, 4)", x.act(op, 3, 4), -3);
            Check.due("act(op, 3, 5)", x.act(op, 3, 5), -3);
            Check.due("act(op, 4, 5)", x.act(op, 4, 5), -1);
        }
        Check.due("act(0, 1, 2)", x.act(0, 1, 2), 6);
        // Only the first, the middle or the last sides differ.
        int[][] others = {{3, 2, 2}, {2, 3, 2}, {2, 2, 3}};
        x.leaf(3, 2, 2, 2);
        for (int[] s : others) {
            int other = x.leaf(3, s[0], s[1], s[2]);
            Check.due("act(0, 7, other)", x.act(0, 7, other), -1);
            Check.due("act(0, other, 7)", x.act(0, other, 7), -1);
        }
    }

    private static void matrices() {
        PlainLearner x = new PlainLearner();
        x.leaf(2, 2, 3, 0);
        x.leaf(2, 3, 2, 0);
        Check.tell(x, 0, 1, 2, 3, 4, 5, 6);
        Check.tell(x, 1, 7, 8, 9, 10, 11, 12);
        Check.due("act(4, 0, 1)", x.act(4, 0, 1), 2);
        Check.sides(x, 2, 2, 2);
        long[] want = {58, 64, 139, 154};
        for (int i = 0; i < 4; i++) {
            Check.value(x, 2, i, want[i], 1);
        }
        Check.due("act(4, 1, 0)", x.act(4, 1, 0), 3);
        Check.sides(x, 3, 3, 3);
        Check.value(x, 3, 1, 7 * 2 + 8 * 5, 1);
        Check.due("act(4, 0, 0)", x.act(4, 0, 0), -1);
        x.leaf(1, 3, 0, 0);
        x.leaf(3, 1, 2, 3);
        x.leaf(2, 64, 1, 0);
        x.leaf(2, 1, 64, 0);
        Check.due("act(4, 0, 4)", x.act(4, 0, 4), -1);
        Check.due("act(4, 4, 1)", x.act(4, 4, 1), -1);
        Check.due("act(4, 5, 1)", x.act(4, 5, 1), -1);
        Check.due("act(4, 6, 7)", x.act(4, 6, 7), -3);
        Check.due("act(4, 7, 6)", x.act(4, 7, 6), 8);
        Check.sides(x, 8, 1, 1);
    }

    private static void alongSides() {
        PlainLearner x = new PlainLearner();
        x.leaf(3, 2, 3, 2);
        Check.tell(x, 0, 1, 2, 3, 4, 5, 6, 7, 8, 9, 10, 11, 12);
        Check.due("act(5, 0, 0)", x.act(5, 0, 0), 1);
        Check.sides(x, 1, 3, 2);
        Check.value(x, 1, 0, 8, 1);
        Check.value(x, 1, 5, 18, 1);
        Check.due("act(5, 0, 1)", x.act(5, 0, 1), 2);
        Check.sides(x, 2, 2, 2);
        Check.value(x, 2, 0, 9, 1);
        Check.value(x, 2, 1, 12, 1);
        Check.value(x, 2, 3, 30, 1);
        Check.due("act(6, 0, 2)", x.act(6, 0, 2), 3);
        Check.sides(x, 3, 2, 3);
        Check.value(x, 3, 0, 3, 2);
        Check.value(x, 3, 4, 19, 2);
        x.tell(0, 0, 50, 1);
        Check.due("act(7, 0, 1)", x.act(7, 0, 1), 4);
        Check.sides(x, 4, 2, 2);
        Check.value(x, 4, 0, 50, 1);
        Check.value(x, 4, 1, 6, 1);
        Check.value(x, 4, 2, 11, 1);
        int row = Check.row(x, -3, -1, -2);
        Check.due("act(7, 5, 0)", x.act(7, row, 0), 6);
        Check.sides(x, 6);
        Check.value(x, 6, 0, -1, 1);
        Check.due("act(6, 5, 0)", x.act(6, row, 0), 7);
        Check.value(x, 7, 0, -2, 1);
        Check.due("act(7, 6, 0): no sides", x.act(7, 6, 0), -1);
        Check.due("act(5, 5, 1)", x.act(5, row, 1), -1);
        Check.due("act(6, 0, 3)", x.act(6, 0, 3), -1);
        Check.due("act(7, 0, -1)", x.act(7, 0, -1), -1);
    }

    private static void pickAndTurn() {
        PlainLearner x = new PlainLearner();
        x.leaf(3, 2, 3, 2);
        Check.tell(x, 0, 1, 2, 3, 4, 5, 6, 7, 8, 9, 10, 11, 12);
        Check.due("act(8, 0, 1)", x.act(8, 0, 1), 1);
        Check.sides(x, 1, 3, 2);
        Check.value(x, 1, 0, 7, 1);
        Check.value(x, 1, 5, 12, 1);
        Check.due("act(8, 1, 2)", x.act(8, 1, 2), 2);
        Check.sides(x, 2, 2);
        Check.value(x, 2, 0, 11, 1);
        Check.due("act(8, 2, 0)", x.act(8, 2, 0), 3);
        Check.sides(x, 3);
        Check.value(x, 3, 0, 11, 1);
        Check.due("act(8, 3, 0)", x.act(8, 3, 0), -1);
        Check.due("act(8, 0, 2)", x.act(8, 0, 2), -1);
        Check.due("act(8, 0, -1)", x.act(8, 0, -1), -1);
        Check.due("act(9, 0, 0)", x.act(9, 0, 0), 4);
        Check.sides(x, 4, 2, 2, 3);
        long[] turned = {1, 3, 5, 2, 4, 6, 7, 9, 11, 8, 10, 12};
        for (int i = 0; i < 12; i++) {
            Check.value(x, 4, i, turned[i], 1);
        }
        Check.due("act(9, 2, 0): one side", x.act(9, 2, 0), -1);
        Check.due("act(9, 3, 0): no sides", x.act(9, 3, 0), -1);
        Check.due("act(9, 0, 1)", x.act(9, 0, 1), -1);
    }

    private static void cellByCell() {
        PlainLearner x = new PlainLearner();
        x.leaf(2, 1, 3, 0);
        Check.tell(x, 0, -2, 0, 3);
        long[][] want = {{2, 0, -3}, {0, 0, 3}, {2, 0, 3}, {4, 0, 9}, {-2, 0, 3}};
        for (int op = 10; op <= 14; op++) {
            int node = x.act(op, 0, 0);
            Check.due("act(" + op + ", 0, 0)", node, op - 9);
            for (int i = 0; i < 3; i++) {
                Check.value(x, node, i, want[op - 10][i], 1);
            }
            if (op == 14) {
                Check.sides(x, node, 3);
            } else {
                Check.sides(x, node, 1, 3);
            }
        }
        Check.due("act(15, 0, 0)", x.act(15, 0, 0), 6);
        Check.sides(x, 6);
        Check.value(x, 6, 0, 1, 1);
        Check.due("act(14, 6, 0)", x.act(14, 6, 0), 7);
        Check.sides(x, 7, 1);
        Check.due("act(15, 6, 0)", x.act(15, 6, 0), 8);
        for (int op = 9; op <= 15; op++) {
            Check.due("act(" + op + ", 0, 1)", x.act(op, 0, 1), -1);
            Check.due("act(" + op + ", 0, -1)", x.act(op, 0, -1), -1);
        }
    }

    private static void wrongActs() {
        PlainLearner x = new PlainLearner();
        Check.due("act(0, 0, 0): nothing there", x.act(0, 0, 0), -1);
        x.leaf(2, 2, 2, 0);
        int[] wrong = {-1, 1, MIN, MAX};
        for (int op = 0; op <= 15; op++) {
            for (int w : wrong) {
                Check.due("act(" + op + ", " + w + ", 0)", x.act(op, w, 0), -1);
            }
        }
        for (int op = 0; op <= 4; op++) {
            for (int w : wrong) {
                Check.due("act(" + op + ", 0, " + w + ")", x.act(op, 0, w), -1);
            }
        }
        int[] wrongOps = {-1, 16, MIN, MAX};
        for (int op : wrongOps) {
            Check.due("act(" + op + ", 0, 0)", x.act(op, 0, 0), -1);
        }
        Check.due("count(0)", x.count(0), 1);
    }

    private static void whatANodeIs() {
        PlainLearner x = new PlainLearner();
        x.leaf(2, 2, 3, 0);
        x.act(2, 0, 0);
        x.act(8, 1, 1);
        for (int what = 5; what <= 7; what++) {
            Check.due("node(0, " + what + ")", x.node(0, what), -2);
        }
        Check.due("node(1, 5)", x.node(1, 5), 2);
        Check.due("node(1, 6)", x.node(1, 6), 0);
        Check.due("node(1, 7)", x.node(1, 7), 0);
        Check.due("node(2, 5)", x.node(2, 5), 8);
        Check.due("node(2, 6)", x.node(2, 6), 1);
        Check.due("node(2, 7)", x.node(2, 7), 1);
        int[][] wrong = {{0, -1}, {0, 8}, {3, 0}, {-1, 0}, {MIN, 0}, {MAX, 4}, {0, MIN}, {0, MAX}};
        for (int[] w : wrong) {
            Check.due("node(" + w[0] + ", " + w[1] + ")", x.node(w[0], w[1]), -1);
        }
    }

    private static void wrongQuestions() {
        PlainLearner x = new PlainLearner();
        x.leaf(1, 2, 0, 0);
        int[][] wrong = {{-1, 0, 0}, {1, 0, 0}, {0, -1, 0}, {0, 2, 0}, {0, 0, -1}, {0, 0, 2}, {MIN, 0, 0},
            {MAX, 0, 0}, {0, MIN, 0}, {0, MAX, 1}, {0, 0, MIN}, {0, 0, MAX}};
        for (int[] w : wrong) {
            Check.due("value(" + w[0] + ", " + w[1] + ", " + w[2] + ")", x.value(w[0], w[1], w[2]),
                    Check.BAD_FRACTION);
        }
    }

    /** What an operation gives exactly is looked at in least terms, and behind each sum of a row. */
    private static void roomOfFractions() {
        PlainLearner x = new PlainLearner();
        x.leaf(0, 0, 0, 0);
        x.leaf(0, 0, 0, 0);
        int plus = x.act(0, 0, 1);
        int less = x.act(1, 0, 1);
        int times = x.act(2, 0, 1);
        int over = x.act(3, 0, 1);
        x.tell(0, 0, MAX, 1);
        x.tell(1, 0, 1, 1);
        Check.value(x, plus, 0, 0, 0);
        Check.value(x, less, 0, MAX - 1, 1);
        x.tell(1, 0, MAX, 1);
        Check.value(x, over, 0, 1, 1);
        Check.value(x, times, 0, 0, 0);
        x.tell(1, 0, 1, MAX);
        Check.value(x, times, 0, 1, 1);
        Check.value(x, over, 0, 0, 0);
        x.tell(0, 0, 65536, 65535);
        x.tell(1, 0, 65535, 65536);
        Check.value(x, times, 0, 1, 1);
        Check.value(x, plus, 0, 0, 0);
        x.tell(0, 0, 1, 65536);
        x.tell(1, 0, 1, 65535);
        Check.value(x, times, 0, 0, 0);
        x.tell(1, 0, -1, 32768);
        Check.value(x, times, 0, 0, 0);
        x.tell(1, 0, -1, 32767);
        Check.value(x, times, 0, -1, 65536L * 32767);
        x.tell(0, 0, 1, 6);
        x.tell(1, 0, 1, 10);
        Check.value(x, plus, 0, 4, 15);
        int row = Check.row(x, MAX, 1, -1);
        int sum = x.act(5, row, 0);
        int mean = x.act(6, row, 0);
        int all = x.act(15, row, 0);
        Check.value(x, sum, 0, 0, 0);
        Check.value(x, mean, 0, 0, 0);
        Check.value(x, all, 0, 0, 0);
        Check.tell(x, row, 1, -1, MAX);
        Check.value(x, sum, 0, MAX, 1);
        Check.value(x, mean, 0, MAX, 3);
        Check.value(x, all, 0, MAX, 1);
    }

    private static void wildIsCatching() {
        PlainLearner x = new PlainLearner();
        x.leaf(1, 2, 0, 0);
        x.tell(0, 0, 1, 0);
        x.tell(0, 1, 3, 1);
        x.leaf(0, 0, 0, 0);
        for (int op = 0; op <= 3; op++) {
            Check.value(x, x.act(op, 0, 1), 0, 0, 0);
            Check.value(x, x.act(op, 1, 0), 0, 0, 0);
        }
        Check.value(x, x.act(2, 0, 1), 1, 0, 1);
        Check.value(x, x.act(3, 0, 1), 1, 0, 0);
        Check.value(x, x.act(3, 1, 0), 1, 0, 1);
        for (int op = 5; op <= 8; op++) {
            Check.value(x, x.act(op, 0, 0), 0, 0, 0);
        }
        for (int op = 10; op <= 15; op++) {
            Check.value(x, x.act(op, 0, 0), 0, 0, 0);
        }
        x.leaf(2, 2, 1, 0);
        int wide = x.count(0);
        x.leaf(2, 1, 2, 0);
        x.tell(wide, 0, 1, 0);
        int small = x.act(4, wide, wide - 1);
        Check.value(x, small, 0, 0, 0);
        int big = x.act(4, wide - 1, wide);
        Check.value(x, big, 0, 0, 0);
        Check.value(x, big, 1, 0, 1);
        Check.value(x, big, 2, 0, 0);
        Check.value(x, big, 3, 0, 1);
    }

    private static void valuesFollowTheLeaves() {
        PlainLearner x = new PlainLearner();
        x.leaf(0, 0, 0, 0);
        x.act(13, 0, 0);
        x.leaf(0, 0, 0, 0);
        x.act(0, 1, 2);
        Check.value(x, 3, 0, 0, 1);
        x.tell(2, 0, 5, 1);
        Check.value(x, 3, 0, 5, 1);
        x.tell(0, 0, 2, 1);
        Check.value(x, 3, 0, 9, 1);
        Check.value(x, 1, 0, 4, 1);
        x.tell(0, 0, 1, 0);
        Check.value(x, 3, 0, 0, 0);
        x.tell(0, 0, 1, 2);
        Check.value(x, 3, 0, 21, 4);
    }
}
