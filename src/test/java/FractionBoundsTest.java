/** The boundary cases of "1 FRACTIONS" and of the first sentence of "Terms", a test for each. */
public final class FractionBoundsTest {
    private static final int MIN = Integer.MIN_VALUE, MAX = Integer.MAX_VALUE;
    private static final int PLUS = 0, LESS = 1, TIMES = 2, OVER = 3;

    public static void main(String[] args) {
        Check.sentence("in least terms", FractionBoundsTest::leastTerms);
        Check.sentence("Q above 0", FractionBoundsTest::bottomAboveNone);
        Check.sentence("P and Q of sizes up to 2147483647 (told)", FractionBoundsTest::sizesTold);
        Check.sentence("P and Q of sizes up to 2147483647 (+)", FractionBoundsTest::sizesOfSums);
        Check.sentence("P and Q of sizes up to 2147483647 (-)", FractionBoundsTest::sizesOfDifferences);
        Check.sentence("P and Q of sizes up to 2147483647 (*)", FractionBoundsTest::sizesOfProducts);
        Check.sentence("P and Q of sizes up to 2147483647 (/)", FractionBoundsTest::sizesOfQuotients);
        Check.sentence("what is none of these is WILD (no wrap-around)", FractionBoundsTest::noWrapAround);
        Check.sentence("or / by 0, is WILD", FractionBoundsTest::overNone);
        Check.sentence("so is all that is reckoned of what is WILD", FractionBoundsTest::wildIsCatching);
        Check.sentence("(also times 0)", FractionBoundsTest::wildTimesNone);
        Check.sentence("Of each operation (+ - * /) the exact result is looked at", FractionBoundsTest::eachOperation);
        Check.sentence("of sums in a row the one behind each (from the left)", FractionBoundsTest::sumsFromTheLeft);
        Check.end();
    }

    /** p / q told as a leaf's cell becomes want; 0 / 0 stands for WILD. */
    private static void told(int p, int q, long wantP, long wantQ) {
        PlainLearner x = new PlainLearner();
        x.leaf(0, 0, 0, 0);
        x.tell(0, 0, 77, 5);
        Check.due("tell(0, 0, " + p + ", " + q + ")", x.tell(0, 0, p, q), wantQ == 0 ? 1 : 0);
        Check.due("P of " + p + " / " + q, x.value(0, 0, 0), wantP);
        Check.due("Q of " + p + " / " + q, x.value(0, 0, 1), wantQ);
    }

    /** An act on a / b and c / d. */
    private static void reckoned(int op, int a, int b, int c, int d, long wantP, long wantQ) {
        PlainLearner x = new PlainLearner();
        x.leaf(0, 0, 0, 0);
        x.leaf(0, 0, 0, 0);
        x.tell(0, 0, a, b);
        x.tell(1, 0, c, d);
        x.act(op, 0, 1);
        String name = a + " / " + b + " " + "+-*:".charAt(op) + " " + c + " / " + d;
        Check.due("P of " + name, x.value(2, 0, 0), wantP);
        Check.due("Q of " + name, x.value(2, 0, 1), wantQ);
    }

    private static void leastTerms() {
        told(6, 4, 3, 2);
        told(-6, 4, -3, 2);
        told(0, 5, 0, 1);
        told(0, MAX, 0, 1);
        told(MAX, MAX, 1, 1);
        told(MIN, MIN, 1, 1);
        told(MIN, 2, -(1 << 30), 1);
        told(2, MIN, -1, 1 << 30);
        told(6, MIN, -3, 1 << 30);
        reckoned(PLUS, 1, 6, 1, 10, 4, 15);
        reckoned(PLUS, 1, 2, 1, 2, 1, 1);
        reckoned(LESS, 1, 2, 1, 2, 0, 1);
        reckoned(LESS, 5, 6, 1, 3, 1, 2);
        reckoned(TIMES, 2, 3, 3, 4, 1, 2);
        reckoned(TIMES, 0, 1, 3, 4, 0, 1);
        reckoned(OVER, 4, 3, 2, 9, 6, 1);
        reckoned(OVER, 0, 1, 5, 7, 0, 1);
    }

    private static void bottomAboveNone() {
        told(1, -2, -1, 2);
        told(-1, -2, 1, 2);
        told(0, -3, 0, 1);
        told(0, MIN, 0, 1);
        told(1, -MAX, -1, MAX);
        reckoned(OVER, 1, 1, -2, 1, -1, 2);
        reckoned(OVER, -3, 1, -MAX, 1, 3, MAX);
        reckoned(OVER, 0, 1, -5, 1, 0, 1);
        reckoned(TIMES, -1, 2, -1, 3, 1, 6);
    }

    private static void sizesTold() {
        told(MAX, 1, MAX, 1);
        told(-MAX, 1, -MAX, 1);
        told(1, MAX, 1, MAX);
        told(MAX, MAX - 1, MAX, MAX - 1);
        told(-MAX + 1, MAX, -MAX + 1, MAX);
        told(MIN, 1, 0, 0);
        told(MIN, -1, 0, 0);
        told(MIN, MAX, 0, 0);
        told(1, MIN, 0, 0);
        told(-1, MIN, 0, 0);
        told(MAX, MIN, 0, 0);
    }

    private static void sizesOfSums() {
        reckoned(PLUS, MAX - 1, 1, 1, 1, MAX, 1);
        reckoned(PLUS, MAX, 1, 1, 1, 0, 0);
        reckoned(PLUS, -MAX + 1, 1, -1, 1, -MAX, 1);
        reckoned(PLUS, -MAX, 1, -1, 1, 0, 0);
        reckoned(PLUS, MAX, 1, 0, 1, MAX, 1);
        reckoned(PLUS, MAX, 1, 1, 2, 0, 0);
        // 46340 * 46341 has room as Q, 46341 * 46342 has none.
        reckoned(PLUS, 1, 46340, 1, 46341, 92681, 2147441940L);
        reckoned(PLUS, 1, 46341, 1, 46342, 0, 0);
        reckoned(PLUS, 1, MAX, 1, MAX, 2, MAX);
        reckoned(PLUS, 1, MAX, 1, MAX - 1, 0, 0);
    }

    private static void sizesOfDifferences() {
        reckoned(LESS, -MAX + 1, 1, 1, 1, -MAX, 1);
        reckoned(LESS, -MAX, 1, 1, 1, 0, 0);
        reckoned(LESS, MAX - 1, 1, -1, 1, MAX, 1);
        reckoned(LESS, MAX, 1, -1, 1, 0, 0);
        reckoned(LESS, 0, 1, MAX, 1, -MAX, 1);
        reckoned(LESS, MAX, 1, MAX, 1, 0, 1);
        reckoned(LESS, 1, 46340, 1, 46341, 1, 2147441940L);
        reckoned(LESS, 1, 46341, 1, 46342, 0, 0);
    }

    private static void sizesOfProducts() {
        reckoned(TIMES, 46340, 1, 46341, 1, 2147441940L, 1);
        reckoned(TIMES, 46341, 1, 46341, 1, 0, 0);
        reckoned(TIMES, MAX, 1, -1, 1, -MAX, 1);
        reckoned(TIMES, 65536, 1, 32767, 1, 2147418112L, 1);
        reckoned(TIMES, 65536, 1, 32768, 1, 0, 0);
        reckoned(TIMES, -65536, 1, 32767, 1, -2147418112L, 1);
        reckoned(TIMES, -65536, 1, 32768, 1, 0, 0);
        reckoned(TIMES, 1, 65536, 1, 32767, 1, 2147418112L);
        reckoned(TIMES, 1, 65536, 1, 32768, 0, 0);
        reckoned(TIMES, MAX, 2, 2, MAX, 1, 1);
    }

    private static void sizesOfQuotients() {
        reckoned(OVER, MAX, 1, 1, 1, MAX, 1);
        reckoned(OVER, 65536, 1, 1, 32767, 2147418112L, 1);
        reckoned(OVER, 65536, 1, 1, 32768, 0, 0);
        reckoned(OVER, 1, 65536, 32767, 1, 1, 2147418112L);
        reckoned(OVER, 1, 65536, 32768, 1, 0, 0);
        reckoned(OVER, 1, 1, MAX, 1, 1, MAX);
        reckoned(OVER, 1, 1, 1, MAX, MAX, 1);
        reckoned(OVER, 2, 1, 1, MAX, 0, 0);
        reckoned(OVER, MAX, MAX - 1, MAX, MAX - 1, 1, 1);
    }

    /** Results that would look small again in 32 or 64 bits. */
    private static void noWrapAround() {
        reckoned(PLUS, MAX, 1, MAX, 1, 0, 0);
        reckoned(LESS, -MAX, 1, MAX, 1, 0, 0);
        reckoned(TIMES, 65536, 1, 65536, 1, 0, 0);
        reckoned(TIMES, 65537, 1, 65537, 1, 0, 0);
        reckoned(TIMES, 1, 65536, 1, 65536, 0, 0);
        reckoned(TIMES, MAX, 1, MAX, 1, 0, 0);
        reckoned(TIMES, -MAX, 1, MAX, 1, 0, 0);
        reckoned(PLUS, MAX, MAX - 1, MAX, MAX - 2, 0, 0);
        reckoned(LESS, MAX, MAX - 1, -MAX, MAX - 2, 0, 0);
        reckoned(LESS, -MAX, MAX - 1, MAX, MAX - 2, 0, 0);
        reckoned(OVER, MAX, MAX - 1, MAX - 2, MAX, 0, 0);
    }

    private static void overNone() {
        told(5, 0, 0, 0);
        told(0, 0, 0, 0);
        told(-5, 0, 0, 0);
        told(MIN, 0, 0, 0);
        reckoned(OVER, 5, 1, 0, 1, 0, 0);
        reckoned(OVER, -5, 1, 0, 1, 0, 0);
        reckoned(OVER, 0, 1, 0, 1, 0, 0);
    }

    private static void wildIsCatching() {
        for (int op = PLUS; op <= OVER; op++) {
            reckoned(op, 1, 0, 3, 1, 0, 0);
            reckoned(op, 3, 1, 1, 0, 0, 0);
            reckoned(op, 1, 0, 1, 0, 0, 0);
        }
        // The WILD cell stands first, in the middle and last of a row, and is not the greatest one.
        for (int at = 0; at < 3; at++) {
            PlainLearner x = new PlainLearner();
            int row = Check.row(x, 5, 6, 7);
            x.tell(row, at, 1, 0);
            for (int op : new int[] {5, 6, 7, 15}) {
                Check.value(x, x.act(op, row, 0), 0, 0, 0);
            }
            for (int op = 10; op <= 14; op++) {
                Check.value(x, x.act(op, row, 0), at, 0, 0);
                Check.due("Q of a cell that is not WILD", x.value(x.count(0) - 1, (at + 1) % 3, 1), 1);
            }
            for (int n = 0; n < 3; n++) {
                Check.due("Q of cell " + n + " alone", x.value(x.act(8, row, n), 0, 1), n == at ? 0 : 1);
            }
        }
    }

    private static void wildTimesNone() {
        reckoned(TIMES, 1, 0, 0, 1, 0, 0);
        reckoned(TIMES, 0, 1, 1, 0, 0, 0);
        reckoned(OVER, 0, 1, 1, 0, 0, 0);
        // In a @ b as well.
        PlainLearner x = new PlainLearner();
        x.leaf(2, 1, 2, 0);
        x.leaf(2, 2, 1, 0);
        x.tell(0, 1, 1, 0);
        Check.value(x, x.act(4, 0, 1), 0, 0, 0);
        Check.value(x, x.act(4, 1, 0), 0, 0, 1);
        Check.value(x, 3, 1, 0, 0);
    }

    private static void eachOperation() {
        // Beyond the room before it is brought to least terms, and not behind that.
        reckoned(TIMES, 65536, 65535, 65535, 65536, 1, 1);
        reckoned(PLUS, 1, MAX - 1, 1, MAX - 1, 1, (MAX - 1) / 2);
        reckoned(OVER, MAX, 65536, MAX, 65537, 65537, 65536);
        // The SUM has no room, though the MEAN would have.
        PlainLearner x = new PlainLearner();
        Check.value(x, x.act(6, Check.row(x, MAX, MAX), 0), 0, 0, 0);
        Check.value(x, x.act(6, Check.row(x, MAX - 1, 1), 0), 0, MAX, 2);
        // A product has no room, though the sum of both would have.
        x.leaf(2, 1, 2, 0);
        x.leaf(2, 2, 1, 0);
        Check.tell(x, 4, 65536, -65536);
        Check.tell(x, 5, 32768, 32768);
        Check.value(x, x.act(4, 4, 5), 0, 0, 0);
        Check.tell(x, 5, 32767, 32767);
        Check.value(x, 6, 0, 0, 1);
        // a * a.
        Check.value(x, x.act(13, Check.row(x, 46340, 46341), 0), 0, 46340L * 46340, 1);
        Check.value(x, 8, 1, 0, 0);
    }

    private static void sumsFromTheLeft() {
        int[][] rows = {{MAX, 1, -1}, {1, -1, MAX}, {-1, MAX, 1}, {-MAX, -1, 1}, {1, -MAX, -1}, {MAX, -1, 1}, {1, MAX, -1}};
        long[] sums = {0, MAX, MAX, 0, -MAX, MAX, 0};
        for (int k = 0; k < rows.length; k++) {
            PlainLearner x = new PlainLearner();
            int row = Check.row(x, rows[k]);
            long bottom = sums[k] == 0 ? 0 : 1;
            Check.value(x, x.act(5, row, 0), 0, sums[k], bottom);
            Check.value(x, x.act(15, row, 0), 0, sums[k], bottom);
            // MAX is no multiple of 3.
            Check.value(x, x.act(6, row, 0), 0, sums[k], 3 * bottom);
            x.leaf(2, 1, 3, 0);
            x.leaf(2, 3, 1, 0);
            Check.tell(x, 4, rows[k]);
            Check.tell(x, 5, 1, 1, 1);
            Check.value(x, x.act(4, 4, 5), 0, sums[k], bottom);
        }
    }
}
