/** The boundary cases of "4 A TABLE" and of promises 12 to 16, a test for each sentence. */
public final class TableBoundsTest {
    private static final int MIN = Integer.MIN_VALUE, MAX = Integer.MAX_VALUE;

    public static void main(String[] args) {
        Check.sentence("rows, 40", TableBoundsTest::forty);
        Check.sentence("four numbers (- 1000 .. 1000)", TableBoundsTest::numbers);
        Check.sentence("a CLASS 0 .. 3", TableBoundsTest::classes);
        Check.sentence("1 less the sum of the squares of the CLASSES' shares", TableBoundsTest::impurity);
        Check.sentence("those of v or less and the others", TableBoundsTest::vOrLess);
        Check.sentence("neither being none", TableBoundsTest::neitherNone);
        Check.sentence("the mean of both IMPURITIES, weighted by how many rows", TableBoundsTest::weighted);
        Check.sentence("the least COST", TableBoundsTest::leastCost);
        Check.sentence("of several the least v", TableBoundsTest::leastOfSeveral);
        Check.sentence("(v one of the column's numbers)", TableBoundsTest::oneOfTheNumbers);
        Check.sentence("THE CUT of a column (0 .. 3)", TableBoundsTest::columns);
        Check.sentence("10000: there is none", TableBoundsTest::noCut);
        Check.sentence("a column's CUT at v (any number)", TableBoundsTest::anyNumber);
        Check.sentence("0 / 0: it is none", TableBoundsTest::noneAnswers);
        Check.sentence("cost: BAD: - 2^40", TableBoundsTest::wrongCosts);
        Check.sentence("The column whose CUT has the least COST", TableBoundsTest::best);
        Check.sentence("best: of several the first", TableBoundsTest::firstOfSeveral);
        Check.sentence("best: NONE", TableBoundsTest::noBest);
        Check.sentence("All rows go: how many there were", TableBoundsTest::clearing);
        Check.end();
    }

    private static void forty() {
        PlainLearner x = new PlainLearner();
        Full.rows(x, 38);
        Check.due("the 39th", x.row(-1000, 0, 0, 0, 0), 39);
        Check.due("the 40th", x.row(1000, 0, 0, 0, 3), 40);
        Check.due("one more", x.row(0, 0, 0, 0, 0), -3);
        Check.due("one more", x.row(-1000, 0, 0, 0, 0), -3);
        Check.due("a wrong number", x.row(1001, 0, 0, 0, 0), -1);
        Check.due("a wrong CLASS", x.row(0, 0, 0, 0, 4), -1);
        Check.due("count(1)", x.count(1), 40);
        Check.due("Q of the CUT that parts the last row alone", x.cost(0, 999, 1) == 0 ? 0 : 1, 1);
        x.clear();
        for (int k = 1; k <= 40; k++) {
            Check.due("row " + k + " behind clear()", x.row(k, k, k, k, 0), k);
        }
        Check.due("one more", x.row(0, 0, 0, 0, 0), -3);
    }

    private static void numbers() {
        PlainLearner x = new PlainLearner();
        for (int at = 0; at < 4; at++) {
            int[] r = new int[4];
            for (int wrong : new int[] {MIN, -1001, 1001, MAX}) {
                r[at] = wrong;
                Check.due("row with " + wrong + " at " + at, x.row(r[0], r[1], r[2], r[3], 0), -1);
            }
            r[at] = -1000;
            Check.due("row with -1000 at " + at, x.row(r[0], r[1], r[2], r[3], 0), 2 * at + 1);
            r[at] = 1000;
            Check.due("row with 1000 at " + at, x.row(r[0], r[1], r[2], r[3], 1), 2 * at + 2);
        }
        // Each stands where it was told: one row of - 1000, one of 1000, the others 0.
        for (int column = 0; column < 4; column++) {
            Check.due("cost below all", x.cost(column, -1001, 1), 0);
            Check.due("cost at - 1000", x.cost(column, -1000, 1), 7);
            Check.due("cost at 999", x.cost(column, 999, 1), 7);
            Check.due("cost at 1000", x.cost(column, 1000, 1), 0);
        }
    }

    private static void classes() {
        PlainLearner x = new PlainLearner();
        for (int wrong : new int[] {MIN, -1, 4, 5, MAX}) {
            Check.due("CLASS " + wrong, x.row(0, 0, 0, 0, wrong), -1);
        }
        for (int cls = 0; cls <= 3; cls++) {
            Check.due("CLASS " + cls, x.row(cls, 0, 0, 0, cls), cls + 1);
        }
        // Each is one of its own: 1 | 3 different ones.
        Check.cost(x, 0, 0, 1, 2);
        Check.cost(x, 0, 2, 1, 2);
    }

    private static void impurity() {
        PlainLearner x = new PlainLearner();
        // The one below is pure: what is weighted is the IMPURITY of those above.
        x.row(0, 0, 0, 0, 0);
        x.row(1, 0, 0, 0, 2);
        Check.cost(x, 0, 0, 0, 1);
        x.row(1, 0, 0, 0, 2);
        Check.cost(x, 0, 0, 0, 1);
        x.row(1, 0, 0, 0, 3);
        // Of three: 2 and 1; 1 - 5 / 9 = 4 / 9, times 3 / 4.
        Check.cost(x, 0, 0, 1, 3);
        x.row(1, 0, 0, 0, 0);
        x.row(1, 0, 0, 0, 1);
        // Of five: 2, 1, 1, 1; 1 - 7 / 25 = 18 / 25, times 5 / 6.
        Check.cost(x, 0, 0, 3, 5);
    }

    private static void vOrLess() {
        PlainLearner x = new PlainLearner();
        x.row(-1, 0, 0, 0, 0);
        x.row(0, 0, 0, 0, 0);
        x.row(1, 0, 0, 0, 1);
        Check.cost(x, 0, -1, 1, 3);
        Check.cost(x, 0, 0, 0, 1);
        Check.cost(x, 0, -2, 0, 0);
        Check.cost(x, 0, 1, 0, 0);
    }

    private static void neitherNone() {
        PlainLearner x = new PlainLearner();
        x.row(5, 1, 0, 0, 0);
        for (int v : new int[] {4, 5, 6}) {
            Check.cost(x, 0, v, 0, 0);
        }
        Check.due("cut(0) of one row", x.cut(0), 10000);
        x.row(5, 2, 0, 0, 1);
        for (int v : new int[] {4, 5, 6}) {
            Check.cost(x, 0, v, 0, 0);
        }
        Check.due("cut(0) of like numbers", x.cut(0), 10000);
        Check.due("cut(1): never the greatest number", x.cut(1), 1);
    }

    private static void weighted() {
        PlainLearner x = new PlainLearner();
        x.row(1, 0, 0, 0, 0);
        x.row(1, 0, 0, 0, 1);
        x.row(2, 0, 0, 0, 0);
        x.row(2, 0, 0, 0, 1);
        x.row(2, 0, 0, 0, 2);
        // 1 / 2 of two rows and 2 / 3 of three: 3 / 5, where the plain mean is 7 / 12.
        Check.cost(x, 0, 1, 3, 5);
    }

    private static void leastCost() {
        PlainLearner x = new PlainLearner();
        x.row(1, 0, 0, 0, 0);
        x.row(2, 0, 0, 0, 0);
        x.row(3, 0, 0, 0, 1);
        x.row(4, 0, 0, 0, 1);
        Check.due("cut(0)", x.cut(0), 2);
        // 1 / 3 stands twice, 0 once.
        Check.cost(x, 0, 1, 1, 3);
        Check.cost(x, 0, 2, 0, 1);
        Check.cost(x, 0, 3, 1, 3);
    }

    private static void leastOfSeveral() {
        int[][] orders = {{1, 2, 3}, {1, 3, 2}, {2, 1, 3}, {2, 3, 1}, {3, 1, 2}, {3, 2, 1}};
        for (int[] order : orders) {
            PlainLearner x = new PlainLearner();
            for (int v : order) {
                x.row(v, -v, 0, 0, v == 2 ? 1 : 0);
            }
            Check.due("cut(0)", x.cut(0), 1);
            Check.due("cut(1)", x.cut(1), -3);
        }
        PlainLearner y = new PlainLearner();
        for (int v = 40; v > 0; v--) {
            y.row(v - 1000, 1000 - v, 0, 0, 2);
        }
        Check.due("cut(0) of 40 rows of one CLASS", y.cut(0), -999);
        Check.due("cut(1) of 40 rows of one CLASS", y.cut(1), 960);
    }

    private static void oneOfTheNumbers() {
        PlainLearner x = new PlainLearner();
        x.row(-1000, 10, 0, 0, 0);
        x.row(1000, 20, 0, 0, 1);
        Check.due("cut(0)", x.cut(0), -1000);
        Check.due("cut(1)", x.cut(1), 10);
        Check.cost(x, 0, 0, 0, 1);
        Check.cost(x, 1, 19, 0, 1);
    }

    private static void columns() {
        PlainLearner x = new PlainLearner();
        x.row(1, 20, 300, -4, 0);
        x.row(2, 10, 400, -5, 1);
        for (int wrong : new int[] {MIN, -1, 4, 5, MAX}) {
            Check.due("cut(" + wrong + ")", x.cut(wrong), -1);
        }
        int[] want = {1, 10, 300, -5};
        for (int column = 0; column < 4; column++) {
            Check.due("cut(" + column + ")", x.cut(column), want[column]);
        }
    }

    private static void noCut() {
        PlainLearner x = new PlainLearner();
        for (int rows = 0; rows <= 40; rows++) {
            for (int column = 0; column < 4; column++) {
                Check.due("cut(" + column + ") of " + rows + " like rows", x.cut(column), 10000);
            }
            x.row(1000, -1000, 0, 7, rows % 4);
        }
        x.clear();
        x.row(1000, -1000, 0, 7, 0);
        x.row(999, -1000, 0, 7, 0);
        Check.due("cut(0)", x.cut(0), 999);
    }

    private static void anyNumber() {
        PlainLearner x = new PlainLearner();
        x.row(-1000, 0, 0, 0, 0);
        x.row(1000, 0, 0, 0, 1);
        for (int v : new int[] {-1000, -999, 0, 1, 999}) {
            Check.cost(x, 0, v, 0, 1);
        }
        for (int v : new int[] {MIN, -1001, 1000, 1001, 10000, MAX}) {
            Check.cost(x, 0, v, 0, 0);
        }
    }

    private static void noneAnswers() {
        PlainLearner x = new PlainLearner();
        Check.cost(x, 3, 0, 0, 0);
        x.row(0, 0, 0, 0, 0);
        Check.cost(x, 3, 0, 0, 0);
        x.row(0, 0, 0, 1, 0);
        // A COST of 0 is not none.
        Check.cost(x, 3, 0, 0, 1);
        Check.cost(x, 3, 1, 0, 0);
        Check.cost(x, 3, -1, 0, 0);
    }

    private static void wrongCosts() {
        PlainLearner x = new PlainLearner();
        for (int rows = 0; rows < 3; rows++) {
            for (int wrong : new int[] {MIN, -1, 4, 5, MAX}) {
                Check.due("cost(" + wrong + ", 0, 0)", x.cost(wrong, 0, 0), Check.BAD_FRACTION);
                Check.due("cost(" + wrong + ", 0, 1)", x.cost(wrong, 0, 1), Check.BAD_FRACTION);
            }
            for (int wrong : new int[] {MIN, -1, 2, 3, MAX}) {
                Check.due("cost(0, 0, " + wrong + ")", x.cost(0, 0, wrong), Check.BAD_FRACTION);
            }
            x.row(rows, 0, 0, 0, rows);
        }
    }

    private static void best() {
        for (int at = 0; at < 4; at++) {
            PlainLearner x = new PlainLearner();
            int[] classes = {0, 1, 0, 1};
            for (int k = 0; k < 4; k++) {
                // Only the column at parts the CLASSES; the others cost 1 / 3 or more.
                int[] r = {k, k, k, k};
                r[at] = classes[k];
                x.row(r[0], r[1], r[2], r[3], classes[k]);
            }
            Check.due("best()", x.best(), at);
        }
    }

    private static void firstOfSeveral() {
        PlainLearner x = new PlainLearner();
        x.row(1, 9, 5, 5, 0);
        x.row(1, 8, 6, 5, 1);
        Check.due("best() of columns 1 and 2", x.best(), 1);
        x.clear();
        x.row(5, 9, 5, 5, 0);
        x.row(1, 8, 6, 1, 1);
        Check.due("best() of all four", x.best(), 0);
    }

    private static void noBest() {
        PlainLearner x = new PlainLearner();
        Check.due("best() of no rows", x.best(), -2);
        x.row(1, 2, 3, 4, 0);
        Check.due("best() of one row", x.best(), -2);
        x.row(1, 2, 3, 4, 1);
        Check.due("best() of like rows", x.best(), -2);
        x.row(1, 2, 3, 5, 1);
        Check.due("best() when column 3 alone has a CUT", x.best(), 3);
    }

    private static void clearing() {
        PlainLearner x = new PlainLearner();
        Check.due("clear() of no rows", x.clear(), 0);
        Full.rows(x, 40);
        Check.due("clear()", x.clear(), 40);
        Check.due("clear() again", x.clear(), 0);
        Check.due("count(1)", x.count(1), 0);
        Check.due("best()", x.best(), -2);
        Check.due("cut(0)", x.cut(0), 10000);
        Check.due("row", x.row(3, 0, 0, 0, 1), 1);
        Check.due("cut(0): no row of before counts", x.cut(0), 10000);
    }
}
