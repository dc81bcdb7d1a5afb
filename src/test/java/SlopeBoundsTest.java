/** The boundary cases of "3 SLOPES" and of promises 7 and 8, a test for each sentence. */
public final class SlopeBoundsTest {
    private static final int MIN = Integer.MIN_VALUE, MAX = Integer.MAX_VALUE;

    public static void main(String[] args) {
        Check.sentence("(or of itself)", SlopeBoundsTest::ofItself);
        Check.sentence("by a CELL of an earlier one", SlopeBoundsTest::ofEarlierOnes);
        Check.sentence("is that of the sum of its CELLS", SlopeBoundsTest::sumOfCells);
        Check.sentence("as if that earlier node were a LEAF", SlopeBoundsTest::asALeaf);
        Check.sentence("of a + b 1, 1; a - b 1, - 1", SlopeBoundsTest::sumsAndDifferences);
        Check.sentence("a * b: b, a", SlopeBoundsTest::products);
        Check.sentence("a / b: 1 / b, - (a / b) / b", SlopeBoundsTest::quotients);
        Check.sentence("a @ b: the other one's CELL", SlopeBoundsTest::matrices);
        Check.sentence("SUM 1, MEAN 1 / how many", SlopeBoundsTest::sumsAndMeans);
        Check.sentence("GREATEST 1 to the CELL that it is, else 0", SlopeBoundsTest::greatest);
        Check.sentence("(one that is WILD gives WILD to all of its row)", SlopeBoundsTest::wildGreatest);
        Check.sentence("- a: - 1", SlopeBoundsTest::negated);
        Check.sentence("11: 1 for a above 0, else 0", SlopeBoundsTest::aboveNone);
        Check.sentence("12: 1, - 1, 0 for a above 0, below, 0", SlopeBoundsTest::withoutSign);
        Check.sentence("13: a + a", SlopeBoundsTest::squares);
        Check.sentence("else 1", SlopeBoundsTest::elseOne);
        Check.sentence("taken in order of nodes from the last one down", SlopeBoundsTest::lastNodeFirst);
        Check.sentence("and of each node's CELLS in order", SlopeBoundsTest::cellsInOrder);
        Check.sentence("of a first, then b", SlopeBoundsTest::firstThenSecond);
        Check.sentence("of 4 by rising k: a's, then b's", SlopeBoundsTest::risingTerms);
        Check.sentence("SUM * the step's own", SlopeBoundsTest::roomOfTheProduct);
        Check.sentence("added to theirs from the left", SlopeBoundsTest::addedFromTheLeft);
        Check.sentence("What is 0 as SUM gives nothing", SlopeBoundsTest::noneGivesNothing);
        Check.sentence("SUM * the step's own, SUM being WILD (also times 0)", SlopeBoundsTest::wildSumTimesNone);
        Check.sentence("slope: as value()", SlopeBoundsTest::asValue);
        Check.sentence("slope: BAD (also a later node): - 2^40", SlopeBoundsTest::wrongSlopes);
        Check.sentence("how many PATHS of NODES lead there", SlopeBoundsTest::waysToNone);
        Check.sentence("(an act on a and a has two)", SlopeBoundsTest::twoWays);
        Check.sentence("of itself 1", SlopeBoundsTest::wayToItself);
        Check.sentence("at most 10^18 (then that)", SlopeBoundsTest::mostWays);
        Check.sentence("ways: BAD", SlopeBoundsTest::wrongWays);
        Check.end();
    }

    /** An object with leaves of one cell each, of the whole numbers told. */
    private static PlainLearner leaves(int... numbers) {
        PlainLearner x = new PlainLearner();
        for (int k = 0; k < numbers.length; k++) {
            x.leaf(0, 0, 0, 0);
            x.tell(k, 0, numbers[k], 1);
        }
        return x;
    }

    private static void ofItself() {
        PlainLearner x = new PlainLearner();
        x.leaf(1, 3, 0, 0);
        x.tell(0, 0, 1, 0);
        x.act(3, 0, 0);
        for (int i = 0; i < 3; i++) {
            Check.slope(x, 0, 0, i, 1, 1);
            Check.slope(x, 1, 1, i, 1, 1);
        }
    }

    private static void ofEarlierOnes() {
        PlainLearner x = leaves(5, 6);
        Check.slope(x, 1, 0, 0, 0, 1);
        int far = x.act(13, 1, 0);
        Check.slope(x, far, 0, 0, 0, 1);
        Check.slope(x, far, 1, 0, 12, 1);
        // The first and the last of 50 nodes.
        for (int k = 3; k < 50; k++) {
            x.act(10, k - 1, 0);
        }
        Check.slope(x, 49, 1, 0, -12, 1);
        Check.slope(x, 49, 0, 0, 0, 1);
        Check.slope(x, 49, 48, 0, -1, 1);
    }

    private static void sumOfCells() {
        PlainLearner x = leaves(3);
        int row = Check.row(x, 1, 2, 3, -10);
        int node = x.act(2, 0, row);
        Check.slope(x, node, 0, 0, -4, 1);
        Check.slope(x, node, row, 3, 3, 1);
        x.leaf(3, 4, 4, 4);
        Check.slope(x, x.act(0, 0, 3), 0, 0, 64, 1);
    }

    private static void asALeaf() {
        PlainLearner x = leaves(3);
        int square = x.act(13, 0, 0);
        int node = x.act(2, square, 0);
        Check.slope(x, node, square, 0, 3, 1);
        Check.slope(x, node, 0, 0, 27, 1);
        // What the earlier node is made of does not count: it may be WILD.
        int wild = x.act(3, 0, x.act(1, 0, 0));
        int more = x.act(10, wild, 0);
        Check.slope(x, more, wild, 0, -1, 1);
    }

    private static void sumsAndDifferences() {
        PlainLearner x = leaves(MAX, -MAX);
        x.tell(0, 0, 1, 0);
        int plus = x.act(0, 0, 1);
        int less = x.act(1, 0, 1);
        Check.slope(x, plus, 0, 0, 1, 1);
        Check.slope(x, plus, 1, 0, 1, 1);
        Check.slope(x, less, 0, 0, 1, 1);
        Check.slope(x, less, 1, 0, -1, 1);
        Check.slope(x, x.act(0, 1, 1), 1, 0, 2, 1);
        Check.slope(x, x.act(1, 1, 1), 1, 0, 0, 1);
    }

    private static void products() {
        PlainLearner x = leaves(0, MAX);
        int times = x.act(2, 0, 1);
        Check.slope(x, times, 0, 0, MAX, 1);
        Check.slope(x, times, 1, 0, 0, 1);
        x.tell(0, 0, 1, 0);
        Check.slope(x, times, 0, 0, MAX, 1);
        Check.slope(x, times, 1, 0, 0, 0);
        // a * a has no room, a + a has: MAX / 2 and once more.
        x.tell(1, 0, MAX, 2);
        int square = x.act(2, 1, 1);
        Check.value(x, square, 0, 0, 0);
        Check.slope(x, square, 1, 0, MAX, 1);
        x.tell(1, 0, MAX - 1, 1);
        Check.slope(x, square, 1, 0, 0, 0);
    }

    private static void quotients() {
        PlainLearner x = leaves(6, 3);
        int over = x.act(3, 0, 1);
        Check.slope(x, over, 0, 0, 1, 3);
        Check.slope(x, over, 1, 0, -2, 3);
        x.tell(0, 0, 0, 1);
        Check.slope(x, over, 0, 0, 1, 3);
        Check.slope(x, over, 1, 0, 0, 1);
        // / by 0.
        x.tell(1, 0, 0, 1);
        Check.slope(x, over, 0, 0, 0, 0);
        Check.slope(x, over, 1, 0, 0, 0);
        // a is WILD: 1 / b does not hang on it.
        x.tell(0, 0, 1, 0);
        x.tell(1, 0, -4, 1);
        Check.slope(x, over, 0, 0, -1, 4);
        Check.slope(x, over, 1, 0, 0, 0);
        // a / b has room as P 2147418112 and none as 2147483648; so has (a / b) / b.
        x.tell(0, 0, 65536, 1);
        x.tell(1, 0, 1, 32767);
        Check.value(x, over, 0, 2147418112L, 1);
        Check.slope(x, over, 1, 0, 0, 0);
        x.tell(0, 0, 1, 32768);
        x.tell(1, 0, 1, 32768);
        Check.slope(x, over, 1, 0, -32768, 1);
        x.tell(0, 0, 1, 1);
        Check.slope(x, over, 1, 0, -(1 << 30), 1);
        x.tell(0, 0, 2, 1);
        Check.slope(x, over, 1, 0, 0, 0);
        // a / b has no room, a / (b * b) would have.
        x.tell(0, 0, 1, 65536);
        x.tell(1, 0, 65536, 3);
        Check.slope(x, over, 1, 0, 0, 0);
    }

    private static void matrices() {
        PlainLearner x = new PlainLearner();
        x.leaf(2, 1, 1, 0);
        x.leaf(2, 1, 1, 0);
        x.tell(0, 0, MAX, 1);
        int times = x.act(4, 0, 1);
        Check.slope(x, times, 0, 0, 0, 1);
        Check.slope(x, times, 1, 0, MAX, 1);
        x.tell(1, 0, 1, 0);
        Check.slope(x, times, 0, 0, 0, 0);
        Check.slope(x, times, 1, 0, MAX, 1);
        // The longest: 64 terms to one cell.
        x.leaf(2, 1, 64, 0);
        x.leaf(2, 64, 1, 0);
        x.tell(3, 63, 7, 1);
        x.tell(4, 62, 9, 1);
        int row = x.act(4, 3, 4);
        Check.slope(x, row, 3, 62, 9, 1);
        Check.slope(x, row, 3, 63, 0, 1);
        Check.slope(x, row, 4, 63, 7, 1);
    }

    private static void sumsAndMeans() {
        PlainLearner x = new PlainLearner();
        x.leaf(2, 1, 64, 0);
        x.tell(0, 5, 1, 0);
        Check.slope(x, x.act(5, 0, 0), 0, 63, 1, 1);
        Check.slope(x, x.act(5, 0, 1), 0, 63, 1, 1);
        Check.slope(x, x.act(6, 0, 0), 0, 63, 1, 1);
        Check.slope(x, x.act(6, 0, 1), 0, 63, 1, 64);
        Check.slope(x, x.act(6, 0, 1), 0, 5, 1, 64);
    }

    private static void greatest() {
        PlainLearner x = new PlainLearner();
        int row = Check.row(x, 2, 7, 7, -7);
        int found = x.act(7, row, 0);
        long[] want = {0, 1, 0, 0};
        for (int i = 0; i < 4; i++) {
            Check.slope(x, found, row, i, want[i], 1);
        }
        // All alike: the first one.
        Check.tell(x, row, 0, 0, 0, 0);
        Check.slope(x, found, row, 0, 1, 1);
        Check.slope(x, found, row, 1, 0, 1);
        Check.slope(x, found, row, 3, 0, 1);
        Check.tell(x, row, 0, 0, 0, 1);
        Check.slope(x, found, row, 0, 0, 1);
        Check.slope(x, found, row, 3, 1, 1);
        int one = Check.row(x, -1);
        Check.slope(x, x.act(7, one, 0), one, 0, 1, 1);
    }

    private static void wildGreatest() {
        PlainLearner x = new PlainLearner();
        x.leaf(2, 2, 3, 0);
        int found = x.act(7, 0, 1);
        for (int at = 0; at < 3; at++) {
            Check.tell(x, 0, 1, 2, 3, 4, 5, 6);
            x.tell(0, at, 1, 0);
            for (int i = 0; i < 3; i++) {
                Check.slope(x, found, 0, i, 0, 0);
            }
            // The other row is as ever.
            Check.slope(x, found, 0, 3, 0, 1);
            Check.slope(x, found, 0, 4, 0, 1);
            Check.slope(x, found, 0, 5, 1, 1);
        }
        // A SUM of 0 gives nothing, here too.
        x.leaf(1, 2, 0, 0);
        x.tell(2, 1, 5, 1);
        int weighted = x.act(2, found, 2);
        Check.slope(x, weighted, 0, 0, 0, 1);
        Check.slope(x, weighted, 0, 5, 5, 1);
    }

    private static void negated() {
        PlainLearner x = leaves(0);
        x.tell(0, 0, 1, 0);
        int less = x.act(10, 0, 0);
        Check.slope(x, less, 0, 0, -1, 1);
        Check.slope(x, x.act(10, less, 0), 0, 0, 1, 1);
    }

    private static void aboveNone() {
        PlainLearner x = leaves(0);
        int above = x.act(11, 0, 0);
        int[][] told = {{0, 1}, {1, MAX}, {-1, MAX}, {MAX, 1}, {-MAX, 1}};
        long[] want = {0, 1, 0, 1, 0};
        for (int k = 0; k < told.length; k++) {
            x.tell(0, 0, told[k][0], told[k][1]);
            Check.slope(x, above, 0, 0, want[k], 1);
        }
        x.tell(0, 0, 1, 0);
        Check.slope(x, above, 0, 0, 0, 0);
    }

    private static void withoutSign() {
        PlainLearner x = leaves(0);
        int size = x.act(12, 0, 0);
        int[][] told = {{0, 1}, {1, MAX}, {-1, MAX}, {MAX, 1}, {-MAX, 1}};
        long[] want = {0, 1, -1, 1, -1};
        for (int k = 0; k < told.length; k++) {
            x.tell(0, 0, told[k][0], told[k][1]);
            Check.slope(x, size, 0, 0, want[k], 1);
        }
        x.tell(0, 0, 1, 0);
        Check.slope(x, size, 0, 0, 0, 0);
    }

    private static void squares() {
        PlainLearner x = leaves(0);
        int square = x.act(13, 0, 0);
        Check.slope(x, square, 0, 0, 0, 1);
        // Its value has no room, its slope has.
        x.tell(0, 0, (1 << 30) - 1, 1);
        Check.value(x, square, 0, 0, 0);
        Check.slope(x, square, 0, 0, MAX - 1, 1);
        x.tell(0, 0, 1 << 30, 1);
        Check.slope(x, square, 0, 0, 0, 0);
        x.tell(0, 0, -MAX, 2);
        Check.slope(x, square, 0, 0, -MAX, 1);
        x.tell(0, 0, 1, 0);
        Check.slope(x, square, 0, 0, 0, 0);
    }

    private static void elseOne() {
        PlainLearner x = new PlainLearner();
        x.leaf(2, 2, 3, 0);
        x.tell(0, 4, 1, 0);
        int pick = x.act(8, 0, 1);
        for (int i = 0; i < 6; i++) {
            Check.slope(x, pick, 0, i, i < 3 ? 0 : 1, 1);
        }
        for (int op : new int[] {9, 14, 15}) {
            int node = x.act(op, 0, 0);
            for (int i = 0; i < 6; i++) {
                Check.slope(x, node, 0, i, 1, 1);
            }
        }
    }

    /** Leaf 0 times three others, added up: the last of the products gives its factor first. */
    private static void lastNodeFirst() {
        int[][] factors = {{1, -1, MAX}, {-1, 1, MAX}, {MAX, 1, -1}, {-1, MAX, 1}};
        long[] want = {MAX, 0, MAX, 0};
        for (int k = 0; k < factors.length; k++) {
            PlainLearner x = leaves(2, factors[k][0], factors[k][1], factors[k][2]);
            int first = x.act(2, 0, 1);
            int second = x.act(2, 0, 2);
            int third = x.act(2, 0, 3);
            int sum = x.act(0, third, x.act(0, first, second));
            Check.slope(x, sum, 0, 0, want[k], want[k] == 0 ? 0 : 1);
        }
    }

    private static void cellsInOrder() {
        int[][] factors = {{MAX, -1, 1}, {MAX, 1, -1}, {1, -1, MAX}, {1, MAX, -1}};
        long[] want = {MAX, 0, MAX, 0};
        for (int k = 0; k < factors.length; k++) {
            PlainLearner x = leaves(2);
            int row = Check.row(x, factors[k]);
            int times = x.act(2, 0, row);
            Check.slope(x, times, 0, 0, want[k], want[k] == 0 ? 0 : 1);
        }
    }

    /** a - a gives 1, then - 1, to a cell that already has MAX or - MAX of a later node. */
    private static void firstThenSecond() {
        PlainLearner x = leaves(0, MAX);
        int none = x.act(1, 0, 0);
        int times = x.act(2, 0, 1);
        int sum = x.act(0, none, times);
        Check.slope(x, sum, 0, 0, 0, 0);
        x.tell(1, 0, -MAX, 1);
        Check.slope(x, sum, 0, 0, -MAX, 1);
        x.tell(1, 0, MAX - 1, 1);
        Check.slope(x, sum, 0, 0, MAX - 1, 1);
    }

    /**
     * In A @ A, A being p q / r s, the cell q gets r (of the first cell), p (k = 0, as b's) and s
     * (k = 1, as a's) of the second one, and r of the last.
     */
    private static void risingTerms() {
        PlainLearner x = new PlainLearner();
        x.leaf(2, 2, 2, 0);
        int square = x.act(4, 0, 0);
        int half = 1 << 30;
        // r, p, s, r has room behind each; r, s, p, r has not.
        Check.tell(x, 0, -MAX, 0, half, half);
        Check.slope(x, square, 0, 1, half + 1, 1);
        // And the other way round.
        Check.tell(x, 0, half, 0, half, -MAX);
        Check.slope(x, square, 0, 1, 0, 0);
    }

    private static void roomOfTheProduct() {
        PlainLearner x = leaves(0, 46341, 46341);
        int inner = x.act(2, 0, 1);
        int outer = x.act(2, inner, 2);
        Check.slope(x, outer, 0, 0, 0, 0);
        x.tell(1, 0, 46340, 1);
        Check.slope(x, outer, 0, 0, 46340L * 46341, 1);
    }

    private static void addedFromTheLeft() {
        PlainLearner x = leaves(0);
        int row = Check.row(x, MAX, 1);
        int times = x.act(2, 0, row);
        Check.slope(x, times, 0, 0, 0, 0);
        Check.tell(x, row, MAX - 1, 1);
        Check.slope(x, times, 0, 0, MAX, 1);
        Check.tell(x, row, -MAX, -1);
        Check.slope(x, times, 0, 0, 0, 0);
        Check.tell(x, row, -MAX + 1, -1);
        Check.slope(x, times, 0, 0, -MAX, 1);
    }

    private static void noneGivesNothing() {
        PlainLearner x = leaves(0, 0, 0);
        int over = x.act(3, 0, 1);
        int times = x.act(2, over, 2);
        // over's SUM is leaf 2, which is 0; its steps' own are WILD.
        Check.slope(x, times, over, 0, 0, 1);
        Check.slope(x, times, 0, 0, 0, 1);
        Check.slope(x, times, 1, 0, 0, 1);
        x.tell(2, 0, 1, MAX);
        Check.slope(x, times, 0, 0, 0, 0);
        Check.slope(x, times, 1, 0, 0, 0);
        // Sums that add up to 0 are 0 too.
        int gone = x.act(1, over, over);
        Check.slope(x, gone, 0, 0, 0, 1);
        // Nodes behind the one asked, and those on which it does not hang, have no SUM.
        Check.slope(x, 2, 0, 0, 0, 1);
    }

    private static void wildSumTimesNone() {
        PlainLearner x = leaves(0);
        x.tell(0, 0, 1, 0);
        int row = Check.row(x, -1, 0, 3);
        for (int op : new int[] {7, 11, 12}) {
            int node = x.act(op, row, 0);
            int wild = x.act(2, node, 0);
            for (int i = 0; i < 3; i++) {
                Check.slope(x, wild, row, i, 0, 0);
            }
        }
        // A factor of 0 as well.
        int none = x.leaf(0, 0, 0, 0);
        int nought = x.act(2, row, none);
        Check.slope(x, x.act(2, nought, 0), row, 1, 0, 0);
    }

    private static void asValue() {
        PlainLearner x = leaves(2, 6);
        int over = x.act(3, 0, 1);
        Check.due("P", x.slope(over, 1, 0, 0), -1);
        Check.due("Q", x.slope(over, 1, 0, 1), 18);
        x.tell(1, 0, 0, 1);
        Check.due("P of WILD", x.slope(over, 1, 0, 0), 0);
        Check.due("Q of WILD", x.slope(over, 1, 0, 1), 0);
    }

    private static void wrongSlopes() {
        PlainLearner x = new PlainLearner();
        x.leaf(1, 2, 0, 0);
        x.act(10, 0, 0);
        x.act(15, 1, 0);
        Check.due("slope(0, 1, 0, 0): a later node", x.slope(0, 1, 0, 0), Check.BAD_FRACTION);
        Check.due("slope(1, 2, 0, 0): a later node", x.slope(1, 2, 0, 0), Check.BAD_FRACTION);
        for (int wrong : new int[] {MIN, -1, 3, 50, MAX}) {
            Check.due("slope(" + wrong + ", 0, 0, 0)", x.slope(wrong, 0, 0, 0), Check.BAD_FRACTION);
            Check.due("slope(2, " + wrong + ", 0, 0)", x.slope(2, wrong, 0, 0), Check.BAD_FRACTION);
            Check.due("slope(" + wrong + ", " + wrong + ", 0, 0)", x.slope(wrong, wrong, 0, 0), Check.BAD_FRACTION);
        }
        for (int wrong : new int[] {MIN, -1, 2, 64, MAX}) {
            Check.due("slope(2, 0, " + wrong + ", 0)", x.slope(2, 0, wrong, 0), Check.BAD_FRACTION);
            Check.due("slope(2, 0, 0, " + wrong + ")", x.slope(2, 0, 0, wrong), Check.BAD_FRACTION);
        }
        // The CELLS are those of the earlier node, not of the one asked.
        Check.due("slope(2, 2, 1, 0)", x.slope(2, 2, 1, 0), Check.BAD_FRACTION);
        Check.slope(x, 2, 0, 1, -1, 1);
        Check.slope(x, 2, 2, 0, 1, 1);
    }

    private static void waysToNone() {
        PlainLearner x = leaves(0, 0);
        Check.due("ways(1, 0)", x.ways(1, 0), 0);
        int on = x.act(10, 1, 0);
        Check.due("ways(2, 0)", x.ways(on, 0), 0);
        Check.due("ways(2, 1)", x.ways(on, 1), 1);
        // The number of an act is no node, and values do not count.
        int pick = x.act(8, x.act(14, 1, 0), 0);
        Check.due("ways to the node of that number", x.ways(pick, 0), 0);
        x.tell(1, 0, 1, 0);
        Check.due("ways to what is WILD", x.ways(pick, 1), 1);
        // Paths of NODES, not of CELLS.
        int row = x.leaf(1, 64, 0, 0);
        Check.due("ways of a SUM of 64 CELLS", x.ways(x.act(15, row, 0), row), 1);
    }

    private static void twoWays() {
        for (int op = 0; op <= 4; op++) {
            PlainLearner x = new PlainLearner();
            x.leaf(2, 1, 1, 0);
            x.leaf(2, 1, 1, 0);
            int both = x.act(op, 0, 0);
            int one = x.act(op, 0, 1);
            Check.due("ways of act(" + op + ", 0, 0)", x.ways(both, 0), 2);
            Check.due("ways of act(" + op + ", 0, 1)", x.ways(one, 0), 1);
            Check.due("ways of both", x.ways(x.act(op, both, one), 0), 3);
        }
    }

    private static void wayToItself() {
        PlainLearner x = leaves(0);
        Check.due("ways(0, 0)", x.ways(0, 0), 1);
        int both = x.act(0, 0, 0);
        Check.due("ways(1, 1)", x.ways(both, both), 1);
    }

    /** 50 nodes have at most 2^49 PATHS, which is below the bound: so that must come out whole. */
    private static void mostWays() {
        PlainLearner x = leaves(0);
        for (int k = 0; k < 49; k++) {
            x.act(0, k, k);
        }
        for (int k = 0; k < 50; k++) {
            Check.due("ways(49, " + k + ")", x.ways(49, k), 1L << 49 - k);
        }
    }

    private static void wrongWays() {
        PlainLearner x = leaves(0, 0);
        Check.due("ways(0, 1): a later node", x.ways(0, 1), -1);
        for (int wrong : new int[] {MIN, -1, 2, 50, MAX}) {
            Check.due("ways(" + wrong + ", 0)", x.ways(wrong, 0), -1);
            Check.due("ways(1, " + wrong + ")", x.ways(1, wrong), -1);
            Check.due("ways(" + wrong + ", " + wrong + ")", x.ways(wrong, wrong), -1);
        }
    }
}
