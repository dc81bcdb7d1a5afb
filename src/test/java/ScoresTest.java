/** Promises 20 to 22: pairs, scores, forgetting. */
public final class ScoresTest {
    private static final int MIN = Integer.MIN_VALUE, MAX = Integer.MAX_VALUE;

    public static void main(String[] args) {
        pairs();
        ofNothing();
        ofOneKindOnly();
        mixed();
        noComesFirst();
        extremes();
        allTold();
        sumsOfPlaces();
        wrongScores();
        Check.end();
    }

    private static void pairs() {
        PlainLearner x = new PlainLearner();
        for (int k = 1; k <= 40; k++) {
            Check.due("pair", x.pair(k, k % 2 == 0), k);
        }
        Check.due("pair", x.pair(1, true), -3);
        Check.due("count(3)", x.count(3), 40);
        Check.due("forget()", x.forget(), 40);
        Check.due("forget()", x.forget(), 0);
        Check.due("count(3)", x.count(3), 0);
        Check.due("pair", x.pair(1, true), 1);
    }

    private static void ofNothing() {
        PlainLearner x = new PlainLearner();
        Check.score(x, 0, 0, 0);
        Check.score(x, 1, 0, 0);
        Check.score(x, 2, 0, 1);
        Check.score(x, 3, 0, 0);
    }

    private static void ofOneKindOnly() {
        PlainLearner x = new PlainLearner();
        x.pair(3, false);
        x.pair(4, false);
        Check.score(x, 0, 0, 0);
        Check.score(x, 1, 1, 1);
        Check.score(x, 2, 0, 1);
        Check.score(x, 3, 0, 0);
        x.forget();
        x.pair(3, true);
        x.pair(4, true);
        Check.score(x, 0, 0, 0);
        Check.score(x, 1, 1, 1);
        Check.score(x, 2, 1, 1);
        Check.score(x, 3, 3, 4);
    }

    private static void mixed() {
        PlainLearner x = new PlainLearner();
        x.pair(5, true);
        x.pair(5, false);
        x.pair(3, true);
        x.pair(1, false);
        Check.score(x, 0, 5, 8);
        Check.score(x, 1, 3, 4);
        Check.score(x, 2, 4, 5);
        Check.score(x, 3, 5, 12);
        x.pair(5, true);
        Check.score(x, 0, 2, 3);
        Check.score(x, 2, 6, 7);
        Check.score(x, 3, 11, 36);
    }

    private static void noComesFirst() {
        PlainLearner x = new PlainLearner();
        x.pair(4, false);
        x.pair(9, true);
        x.pair(2, true);
        Check.score(x, 0, 1, 2);
        Check.score(x, 1, 2, 3);
        Check.score(x, 2, 4, 5);
        Check.score(x, 3, 2, 3);
    }

    private static void extremes() {
        PlainLearner x = new PlainLearner();
        x.pair(MAX, false);
        x.pair(MIN, true);
        Check.score(x, 0, 0, 1);
        // Only a t above every int tells the no right.
        Check.score(x, 1, 1, 2);
        Check.score(x, 2, 2, 3);
        Check.score(x, 3, 1, 2);
        x.pair(MAX, false);
        Check.score(x, 1, 2, 3);
        Check.score(x, 2, 1, 2);
        x.forget();
        x.pair(MAX, true);
        x.pair(MIN, false);
        Check.score(x, 0, 1, 1);
        Check.score(x, 1, 1, 1);
        Check.score(x, 3, 1, 1);
    }

    private static void allTold() {
        PlainLearner x = new PlainLearner();
        for (int k = 0; k < 40; k++) {
            x.pair(k, k < 20);
        }
        Check.score(x, 0, 0, 1);
        Check.score(x, 1, 1, 2);
        Check.score(x, 2, 2, 3);
    }

    /** 1 / r is added from the left, and what has no room on the way is WILD. */
    private static void sumsOfPlaces() {
        PlainLearner x = new PlainLearner();
        for (int k = 0; k < 40; k++) {
            x.pair(-k, true);
        }
        Check.score(x, 3, 0, 0);
        PlainLearner y = new PlainLearner();
        for (int k = 0; k < 10; k++) {
            y.pair(-k, true);
        }
        Check.score(y, 3, 7381, 25200);
    }

    private static void wrongScores() {
        PlainLearner x = new PlainLearner();
        x.pair(1, true);
        int[] wrong = {-1, 4, MIN, MAX};
        for (int w : wrong) {
            Check.due("score(" + w + ", 0)", x.score(w, 0), Check.BAD_FRACTION);
        }
        int[] wrongSides = {-1, 2, MIN, MAX};
        for (int w : wrongSides) {
            for (int kind = 0; kind <= 3; kind++) {
                Check.due("score(kind, " + w + ")", x.score(kind, w), Check.BAD_FRACTION);
            }
        }
    }
}
