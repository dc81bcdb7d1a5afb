/** Promises 17 to 19: games, worths, shares. */
public final class GameTest {
    private static final int MIN = Integer.MIN_VALUE, MAX = Integer.MAX_VALUE;

    public static void main(String[] args) {
        games();
        worths();
        sharesOfThree();
        onePlayer();
        eightPlayers();
        wrongShares();
        Check.end();
    }

    private static void games() {
        PlainLearner x = new PlainLearner();
        int[] wrong = {-1, 9, MIN, MAX};
        for (int w : wrong) {
            Check.due("game(" + w + ")", x.game(w), -1);
        }
        Check.due("game(8)", x.game(8), 0);
        Check.due("worth(255, 9)", x.worth(255, 9), 0);
        Check.due("game(9)", x.game(9), -1);
        Check.due("worth(255, 8)", x.worth(255, 8), 9);
        Check.due("count(2)", x.count(2), 8);
        Check.due("game(8)", x.game(8), 0);
        Check.due("worth(255, 7)", x.worth(255, 7), 0);
        Check.due("game(0)", x.game(0), 0);
        Check.due("count(2)", x.count(2), 0);
        Check.due("worth(1, 7)", x.worth(1, 7), -1);
    }

    private static void worths() {
        PlainLearner x = new PlainLearner();
        x.game(2);
        Check.due("worth(1, 10000)", x.worth(1, 10000), 0);
        Check.due("worth(1, -10000)", x.worth(1, -10000), 10000);
        Check.due("worth(1, 10001)", x.worth(1, 10001), -1);
        Check.due("worth(1, -10001)", x.worth(1, -10001), -1);
        Check.due("worth(1, 3)", x.worth(1, 3), -10000);
        int[] wrong = {0, -1, 4, 5, MIN, MAX};
        for (int w : wrong) {
            Check.due("worth(" + w + ", 1)", x.worth(w, 1), -1);
        }
        Check.due("worth(3, 1)", x.worth(3, 1), 0);
        Check.due("worth(1, MAX)", x.worth(1, MAX), -1);
        Check.due("worth(1, MIN)", x.worth(1, MIN), -1);
        // A smaller game leaves nothing of the greater one's worths behind.
        x.game(1);
        x.game(2);
        Check.due("worth(3, 0)", x.worth(3, 0), 0);
    }

    private static void sharesOfThree() {
        PlainLearner x = new PlainLearner();
        x.game(3);
        Check.share(x, 2, 0, 1);
        x.worth(7, 120);
        x.worth(3, 90);
        x.worth(1, 10);
        Check.share(x, 0, 175, 3);
        Check.share(x, 1, 160, 3);
        Check.share(x, 2, 25, 3);
        x.worth(6, -50);
        Check.share(x, 0, 75, 1);
    }

    private static void onePlayer() {
        PlainLearner x = new PlainLearner();
        x.game(1);
        x.worth(1, -77);
        Check.share(x, 0, -77, 1);
    }

    private static void eightPlayers() {
        PlainLearner x = new PlainLearner();
        x.game(8);
        x.worth(255, 1);
        for (int player = 0; player < 8; player++) {
            Check.share(x, player, 1, 8);
        }
        x.worth(1, 1);
        // Player 0 grows by 1 as the first or the last, the others lose it just behind the first.
        Check.share(x, 0, 1, 4);
        Check.share(x, 5, 3, 28);
        x.game(8);
        for (int set = 1; set < 256; set++) {
            x.worth(set, set % 2 == 1 ? 10000 : -10000);
        }
        // 20000 but for the first place, where it is 10000.
        Check.share(x, 0, 18750, 1);
    }

    private static void wrongShares() {
        PlainLearner x = new PlainLearner();
        Check.due("share(0, 0)", x.share(0, 0), Check.BAD_FRACTION);
        x.game(3);
        int[] wrong = {-1, 3, MIN, MAX};
        for (int w : wrong) {
            Check.due("share(" + w + ", 0)", x.share(w, 0), Check.BAD_FRACTION);
        }
        int[] wrongSides = {-1, 2, MIN, MAX};
        for (int w : wrongSides) {
            Check.due("share(0, " + w + ")", x.share(0, w), Check.BAD_FRACTION);
        }
    }
}
