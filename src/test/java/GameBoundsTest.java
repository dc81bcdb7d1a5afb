/** The boundary cases of "5 A GAME" and of promises 17 to 19, a test for each sentence. */
public final class GameBoundsTest {
    private static final int MIN = Integer.MIN_VALUE, MAX = Integer.MAX_VALUE;

    public static void main(String[] args) {
        Check.sentence("A GAME of up to 8 players; n players (0 .. 8)", GameBoundsTest::upToEight);
        Check.sentence("each set of them (bits)", GameBoundsTest::sets);
        Check.sentence("a WORTH (- 10000 .. 10000", GameBoundsTest::worths);
        Check.sentence("0 at first", GameBoundsTest::noughtAtFirst);
        Check.sentence("of none 0)", GameBoundsTest::worthOfNone);
        Check.sentence("the mean, over all orders of the players", GameBoundsTest::allOrders);
        Check.sentence("what the WORTH grows by when the player comes", GameBoundsTest::extremes);
        Check.sentence("begins, all WORTHS 0", GameBoundsTest::beginsAnew);
        Check.sentence("The WORTH of a set of players: the one before", GameBoundsTest::theOneBefore);
        Check.sentence("worth: BAD (also the set of none)", GameBoundsTest::wrongSets);
        Check.sentence("share: as cost()", GameBoundsTest::asCost);
        Check.sentence("share: BAD: - 2^40", GameBoundsTest::wrongShares);
        Check.end();
    }

    private static void upToEight() {
        PlainLearner x = new PlainLearner();
        for (int n = 0; n <= 8; n++) {
            Check.due("game(" + n + ")", x.game(n), 0);
            Check.due("count(2)", x.count(2), n);
            for (int wrong : new int[] {MIN, -1, 9, 10, 32, MAX}) {
                Check.due("game(" + wrong + ")", x.game(wrong), -1);
            }
            Check.due("count(2)", x.count(2), n);
        }
    }

    private static void sets() {
        for (int n = 0; n <= 8; n++) {
            PlainLearner x = new PlainLearner();
            x.game(n);
            for (int set = 1; set < 1 << n; set++) {
                Check.due("worth(" + set + ", 1) of " + n, x.worth(set, 1), 0);
            }
            for (int wrong : new int[] {MIN, -1, 0, 1 << n, (1 << n) + 1, 1 << 16, 1 << 30, MAX}) {
                Check.due("worth(" + wrong + ", 1) of " + n, x.worth(wrong, 1), -1);
            }
        }
    }

    private static void worths() {
        PlainLearner x = new PlainLearner();
        x.game(1);
        for (int wrong : new int[] {MIN, -10001, 10001, MAX}) {
            Check.due("worth(1, " + wrong + ")", x.worth(1, wrong), -1);
        }
        Check.due("worth(1, 10000)", x.worth(1, 10000), 0);
        Check.share(x, 0, 10000, 1);
        Check.due("worth(1, 10001)", x.worth(1, 10001), -1);
        Check.due("worth(1, -10000)", x.worth(1, -10000), 10000);
        Check.share(x, 0, -10000, 1);
        Check.due("worth(1, -10001)", x.worth(1, -10001), -1);
        Check.due("worth(1, 0)", x.worth(1, 0), -10000);
    }

    private static void noughtAtFirst() {
        PlainLearner x = new PlainLearner();
        x.game(8);
        for (int player = 0; player < 8; player++) {
            Check.share(x, player, 0, 1);
        }
        for (int set = 1; set < 256; set++) {
            Check.due("worth(" + set + ", 5)", x.worth(set, 5), 0);
        }
    }

    /** The first to come grows by the whole WORTH: that of none is 0, and cannot be told. */
    private static void worthOfNone() {
        PlainLearner x = new PlainLearner();
        x.game(2);
        x.worth(1, 7);
        x.worth(2, 7);
        x.worth(3, 7);
        Check.due("worth(0, 100)", x.worth(0, 100), -1);
        Check.share(x, 0, 7, 2);
        Check.share(x, 1, 7, 2);
    }

    private static void allOrders() {
        PlainLearner x = new PlainLearner();
        x.game(8);
        // One set of k players counts in (k - 1)! (8 - k)! of the 8! orders.
        long[] orders = {40320 / 5040, 40320 / 720, 40320 / 240, 40320 / 144, 40320 / 144, 40320 / 240, 40320 / 720,
            40320 / 5040};
        for (int k = 1; k <= 8; k++) {
            int set = (1 << k) - 1;
            x.worth(set, 1);
            Check.share(x, 0, 1, orders[k - 1]);
            x.worth(set, 0);
        }
        // Of one who comes to a set, it is lost.
        x.worth(127, 1);
        Check.share(x, 7, -1, 8);
        x.worth(127, 0);
        x.worth(1, 1);
        Check.share(x, 7, -1, 56);
    }

    private static void extremes() {
        PlainLearner x = new PlainLearner();
        x.game(8);
        for (int set = 1; set < 256; set++) {
            x.worth(set, (set & 1) != 0 ? 10000 : -10000);
        }
        // 10000 in the first place, 20000 in the seven others.
        Check.share(x, 0, 18750, 1);
        PlainLearner y = new PlainLearner();
        y.game(8);
        for (int set = 1; set < 256; set++) {
            y.worth(set, (set & 128) != 0 ? -10000 : 10000);
        }
        Check.share(y, 7, -18750, 1);
        y.game(1);
        y.worth(1, -10000);
        Check.share(y, 0, -10000, 1);
    }

    private static void beginsAnew() {
        PlainLearner x = new PlainLearner();
        x.game(3);
        for (int set = 1; set < 8; set++) {
            x.worth(set, set);
        }
        Check.due("game(9)", x.game(9), -1);
        Check.due("worth(7, 8): the game goes on", x.worth(7, 8), 7);
        // A smaller game, and then the same again: nothing is left of the first one.
        Check.due("game(1)", x.game(1), 0);
        Check.due("worth(1, 4)", x.worth(1, 4), 0);
        Check.due("game(3)", x.game(3), 0);
        for (int set = 1; set < 8; set++) {
            Check.due("worth(" + set + ", 0)", x.worth(set, 0), 0);
        }
        x.worth(7, 5);
        Check.due("game(3)", x.game(3), 0);
        Check.share(x, 0, 0, 1);
        Check.due("game(0)", x.game(0), 0);
        Check.due("worth(1, 1)", x.worth(1, 1), -1);
        Check.due("share(0, 0)", x.share(0, 0), Check.BAD_FRACTION);
    }

    private static void theOneBefore() {
        PlainLearner x = new PlainLearner();
        x.game(8);
        Check.due("worth(255, 3)", x.worth(255, 3), 0);
        Check.due("worth(255, -3)", x.worth(255, -3), 3);
        Check.due("worth(255, -3)", x.worth(255, -3), -3);
        Check.due("worth(254, 1)", x.worth(254, 1), 0);
        Check.due("worth(255, 10001)", x.worth(255, 10001), -1);
        Check.due("worth(255, 0)", x.worth(255, 0), -3);
    }

    private static void wrongSets() {
        PlainLearner x = new PlainLearner();
        x.game(2);
        Check.due("worth(0, 0)", x.worth(0, 0), -1);
        Check.due("worth(0, 1)", x.worth(0, 1), -1);
        Check.due("worth(4, 1)", x.worth(4, 1), -1);
        Check.due("worth(-1, 1)", x.worth(-1, 1), -1);
        Check.due("worth(4, 10001)", x.worth(4, 10001), -1);
        Check.due("worth(3, 1)", x.worth(3, 1), 0);
    }

    private static void asCost() {
        PlainLearner x = new PlainLearner();
        x.game(3);
        x.worth(7, -2);
        Check.due("share(2, 0)", x.share(2, 0), -2);
        Check.due("share(2, 1)", x.share(2, 1), 3);
        x.worth(7, 3);
        Check.due("share(2, 0)", x.share(2, 0), 1);
        Check.due("share(2, 1)", x.share(2, 1), 1);
    }

    private static void wrongShares() {
        PlainLearner x = new PlainLearner();
        for (int n = 0; n <= 8; n++) {
            x.game(n);
            for (int wrong : new int[] {MIN, -1, n, n + 1, MAX}) {
                Check.due("share(" + wrong + ", 0) of " + n, x.share(wrong, 0), Check.BAD_FRACTION);
                Check.due("share(" + wrong + ", 1) of " + n, x.share(wrong, 1), Check.BAD_FRACTION);
            }
            for (int wrong : new int[] {MIN, -1, 2, 3, MAX}) {
                Check.due("share(0, " + wrong + ") of " + n, x.share(0, wrong), Check.BAD_FRACTION);
            }
            if (n > 0) {
                Check.share(x, n - 1, 0, 1);
            }
        }
    }
}
