/** Promises 12 to 16: rows, cuts, costs, the best column, clearing. */
public final class TableTest {
    private static final int MIN = Integer.MIN_VALUE, MAX = Integer.MAX_VALUE;

    public static void main(String[] args) {
        rows();
        wrongRows();
        fullOfRows();
        costs();
        wrongCosts();
        cuts();
        severalCutsOfLikeCost();
        bestColumn();
        clearing();
        Check.end();
    }

    private static void rows() {
        PlainLearner x = new PlainLearner();
        Check.due("row", x.row(-1000, 1000, 0, 1, 0), 1);
        Check.due("row", x.row(0, 0, 0, 0, 3), 2);
        Check.due("count(1)", x.count(1), 2);
    }

    private static void wrongRows() {
        PlainLearner x = new PlainLearner();
        int[] wrong = {-1001, 1001, MIN, MAX};
        for (int w : wrong) {
            Check.due("row(w, 0, 0, 0, 0)", x.row(w, 0, 0, 0, 0), -1);
            Check.due("row(0, w, 0, 0, 0)", x.row(0, w, 0, 0, 0), -1);
            Check.due("row(0, 0, w, 0, 0)", x.row(0, 0, w, 0, 0), -1);
            Check.due("row(0, 0, 0, w, 0)", x.row(0, 0, 0, w, 0), -1);
            Check.due("row(0, 0, 0, 0, w)", x.row(0, 0, 0, 0, w), -1);
        }
        Check.due("row(0, 0, 0, 0, -1)", x.row(0, 0, 0, 0, -1), -1);
        Check.due("row(0, 0, 0, 0, 4)", x.row(0, 0, 0, 0, 4), -1);
        Check.due("count(1)", x.count(1), 0);
    }

    private static void fullOfRows() {
        PlainLearner x = new PlainLearner();
        for (int k = 1; k <= 40; k++) {
            Check.due("row", x.row(k, -k, k % 7, 5, k % 4), k);
        }
        Check.due("row", x.row(1, 2, 3, 4, 0), -3);
        Check.due("row", x.row(1, 2, 3, 4, 4), -1);
        Check.due("count(1)", x.count(1), 40);
        // 20 rows on each side, of each class 5: both impurities are 3 / 4.
        Check.cost(x, 0, 20, 3, 4);
        Check.cost(x, 1, -21, 3, 4);
        Check.due("cut(0)", x.cut(0), 1);
        // The row of 1 alone is pure; of the others 10, 9, 10, 10 of each class.
        Check.cost(x, 0, 1, 19, 26);
    }

    private static void costs() {
        PlainLearner x = new PlainLearner();
        x.row(1, 5, 0, 9, 0);
        x.row(2, 5, 0, 9, 0);
        x.row(3, 5, 0, 9, 1);
        x.row(4, 6, 0, 9, 2);
        Check.cost(x, 0, 1, 1, 2);
        Check.cost(x, 0, 2, 1, 4);
        Check.cost(x, 0, 3, 1, 3);
        Check.cost(x, 0, 4, 0, 0);
        Check.cost(x, 0, 0, 0, 0);
        Check.cost(x, 0, MAX, 0, 0);
        Check.cost(x, 0, MIN, 0, 0);
        Check.cost(x, 1, 5, 1, 3);
        Check.cost(x, 2, 0, 0, 0);
        x.clear();
        x.row(7, 0, 0, 0, 3);
        Check.cost(x, 0, 7, 0, 0);
        x.row(9, 0, 0, 0, 2);
        Check.cost(x, 0, 7, 0, 1);
        Check.cost(x, 0, 8, 0, 1);
    }

    private static void wrongCosts() {
        PlainLearner x = new PlainLearner();
        x.row(1, 2, 3, 4, 0);
        x.row(2, 3, 4, 5, 1);
        int[] wrong = {-1, 4, MIN, MAX};
        for (int w : wrong) {
            Check.due("cost(w, 1, 0)", x.cost(w, 1, 0), Check.BAD_FRACTION);
            Check.due("cut(w)", x.cut(w), -1);
        }
        int[] wrongSides = {-1, 2, MIN, MAX};
        for (int w : wrongSides) {
            Check.due("cost(0, 1, w)", x.cost(0, 1, w), Check.BAD_FRACTION);
            Check.due("cost(0, 9, w)", x.cost(0, 9, w), Check.BAD_FRACTION);
        }
    }

    private static void cuts() {
        PlainLearner x = new PlainLearner();
        Check.due("cut(0)", x.cut(0), 10000);
        x.row(5, 1, -1, 0, 0);
        Check.due("cut(0)", x.cut(0), 10000);
        x.row(5, 2, -2, 0, 1);
        Check.due("cut(0)", x.cut(0), 10000);
        Check.due("cut(1)", x.cut(1), 1);
        Check.due("cut(2)", x.cut(2), -2);
        x.row(6, 3, -3, 0, 1);
        x.row(6, 4, -4, 0, 0);
        Check.due("cut(0)", x.cut(0), 5);
        Check.due("cut(3)", x.cut(3), 10000);
    }

    /** The rows come in such an order that the least v is not the first one found. */
    private static void severalCutsOfLikeCost() {
        PlainLearner x = new PlainLearner();
        x.row(3, 30, 0, 0, 0);
        x.row(1, -10, 0, 0, 0);
        x.row(2, 20, 0, 0, 1);
        Check.cost(x, 0, 1, 1, 3);
        Check.cost(x, 0, 2, 1, 3);
        Check.due("cut(0)", x.cut(0), 1);
        Check.due("cut(1)", x.cut(1), -10);
        x.clear();
        x.row(2, 0, 0, 0, 1);
        x.row(1, 0, 0, 0, 0);
        x.row(3, 0, 0, 0, 0);
        Check.due("cut(0)", x.cut(0), 1);
        // All of one class: any cut costs 0.
        x.clear();
        x.row(7, 0, 0, 0, 2);
        x.row(-7, 0, 0, 0, 2);
        x.row(0, 0, 0, 0, 2);
        Check.due("cut(0)", x.cut(0), -7);
    }

    private static void bestColumn() {
        PlainLearner x = new PlainLearner();
        x.row(1, 1, 5, 5, 0);
        Check.due("best()", x.best(), -2);
        x.row(1, 2, 6, 5, 0);
        x.row(1, 1, 7, 6, 1);
        x.row(1, 2, 8, 7, 1);
        Check.due("best()", x.best(), 2);
        x.clear();
        x.row(1, 1, 1, 1, 0);
        x.row(1, 1, 1, 2, 1);
        Check.due("best()", x.best(), 3);
        x.row(1, 1, 2, 2, 1);
        x.row(1, 1, 2, 2, 1);
        Check.due("best()", x.best(), 3);
        x.clear();
        x.row(1, 4, 1, 1, 0);
        x.row(1, 3, 2, 2, 1);
        Check.due("best()", x.best(), 1);
        x.clear();
        x.row(1, 1, 1, 1, 0);
        x.row(2, 2, 2, 2, 1);
        Check.due("best()", x.best(), 0);
    }

    private static void clearing() {
        PlainLearner x = new PlainLearner();
        x.row(1, 4, 1, 1, 0);
        x.row(2, 3, 2, 2, 1);
        Check.due("clear()", x.clear(), 2);
        Check.due("clear()", x.clear(), 0);
        Check.due("count(1)", x.count(1), 0);
        Check.due("cut(0)", x.cut(0), 10000);
        Check.cost(x, 0, 1, 0, 0);
        Check.due("row", x.row(9, 9, 9, 9, 3), 1);
    }
}
