/** The boundary cases of "6 SCORES" and of promises 20 to 22, a test for each sentence. */
public final class ScoreBoundsTest {
    private static final int MIN = Integer.MIN_VALUE, MAX = Integer.MAX_VALUE;

    public static void main(String[] args) {
        Check.sentence("up to 40 pairs", ScoreBoundsTest::forty);
        Check.sentence("a mark (int)", ScoreBoundsTest::anyMark);
        Check.sentence("0 how many .. have the yes's mark greater", ScoreBoundsTest::greater);
        Check.sentence("those of like marks counting half", ScoreBoundsTest::likeMarks);
        Check.sentence("as a share of such pairs; WILD where nothing is to be divided by", ScoreBoundsTest::noSuchPairs);
        Check.sentence("\"yes is a mark of t or more\"", ScoreBoundsTest::orMore);
        Check.sentence("t any number", ScoreBoundsTest::anyNumber);
        Check.sentence("1: WILD where nothing is to be divided by", ScoreBoundsTest::shareOfNothing);
        Check.sentence("the greatest, over such t, of 2 R / (2 R + W)", ScoreBoundsTest::balance);
        Check.sentence("(0 for R 0)", ScoreBoundsTest::noneToldYes);
        Check.sentence("the sum of 1 / r over the yes", ScoreBoundsTest::places);
        Check.sentence("(as they came)", ScoreBoundsTest::asTheyCame);
        Check.sentence("how many marks (of all pairs) are not below it", ScoreBoundsTest::notBelow);
        Check.sentence("/ how many yes: room", ScoreBoundsTest::roomOfPlaces);
        Check.sentence("3: WILD where nothing is to be divided by", ScoreBoundsTest::noYes);
        Check.sentence("A SCORE of a kind (0 .. 3)", ScoreBoundsTest::kinds);
        Check.sentence("score: BAD: - 2^40 (side)", ScoreBoundsTest::wrongSides);
        Check.sentence("A pair more: how many. FULL", ScoreBoundsTest::howMany);
        Check.sentence("All pairs go: how many there were", ScoreBoundsTest::forgetting);
        Check.end();
    }

    private static PlainLearner yes(int... marks) {
        PlainLearner x = new PlainLearner();
        for (int mark : marks) {
            x.pair(mark, true);
        }
        return x;
    }

    private static PlainLearner no(PlainLearner x, int... marks) {
        for (int mark : marks) {
            x.pair(mark, false);
        }
        return x;
    }

    private static void forty() {
        PlainLearner x = new PlainLearner();
        Full.pairs(x, 39);
        Check.due("the 40th", x.pair(5, true), 40);
        Check.due("one more", x.pair(5, true), -3);
        Check.due("one more", x.pair(MIN, false), -3);
        Check.due("count(3)", x.count(3), 40);
        // The 40th counts: it is the only yes and stands in the last place.
        PlainLearner y = new PlainLearner();
        for (int k = 0; k < 39; k++) {
            y.pair(k, false);
        }
        y.pair(-1, true);
        y.pair(100, true);
        Check.score(y, 3, 1, 40);
        Check.score(y, 0, 0, 1);
        Check.score(y, 1, 39, 40);
    }

    private static void anyMark() {
        Check.score(no(yes(MAX), MIN), 0, 1, 1);
        Check.score(no(yes(MIN), MAX), 0, 0, 1);
        Check.score(no(yes(MIN), MIN), 0, 1, 2);
        Check.score(no(yes(MAX), MAX), 0, 1, 2);
        Check.score(no(yes(0), MIN), 0, 1, 1);
        Check.score(no(yes(MIN), 0), 0, 0, 1);
        Check.score(no(yes(MIN), MAX), 3, 1, 2);
        Check.score(no(yes(MAX), MIN), 3, 1, 1);
        Check.score(no(yes(MAX), MIN), 1, 1, 1);
        Check.score(no(yes(MAX), MIN), 2, 1, 1);
    }

    private static void greater() {
        Check.score(no(yes(3), 2), 0, 1, 1);
        Check.score(no(yes(2), 3), 0, 0, 1);
        Check.score(no(yes(1, 3), 0, 2), 0, 3, 4);
    }

    private static void likeMarks() {
        Check.score(no(yes(3), 3), 0, 1, 2);
        Check.score(no(yes(3, 3), 3, 3, 3), 0, 1, 2);
        Check.score(no(yes(3, 4), 3), 0, 3, 4);
    }

    private static void noSuchPairs() {
        Check.score(yes(), 0, 0, 0);
        Check.score(yes(1, 2), 0, 0, 0);
        Check.score(no(yes(), 1, 2), 0, 0, 0);
        // A share of 0 is not WILD.
        Check.score(no(yes(1), 2), 0, 0, 1);
    }

    private static void orMore() {
        // t 5 tells all right, as 5 itself is told yes.
        Check.score(no(yes(5, 6), 4), 1, 1, 1);
        Check.score(no(yes(5, 5), 5), 1, 2, 3);
        Check.score(no(yes(5), 5, 5), 1, 2, 3);
    }

    private static void anyNumber() {
        // Above all marks, even the greatest int: every pair is told no.
        Check.score(no(yes(), MAX), 1, 1, 1);
        Check.score(no(yes(), MIN, MAX), 1, 1, 1);
        Check.score(no(yes(MIN), MAX, MAX), 1, 2, 3);
        // Below all marks, or the least one: every pair is told yes.
        Check.score(yes(MIN), 1, 1, 1);
        Check.score(yes(MIN, MAX), 1, 1, 1);
        Check.score(no(yes(MIN, MIN), MAX), 1, 2, 3);
        // Between two marks.
        Check.score(no(yes(10), 0), 1, 1, 1);
    }

    private static void shareOfNothing() {
        Check.score(yes(), 1, 0, 0);
        PlainLearner x = yes(1);
        Check.score(x, 1, 1, 1);
        x.forget();
        Check.score(x, 1, 0, 0);
    }

    private static void balance() {
        // t 5: R 1, W 1; t 3: R 2, W 1; t 1: R 2, W 2.
        Check.score(no(yes(5, 3), 5, 1), 2, 4, 5);
        Check.score(yes(1, 2, 3), 2, 1, 1);
        // The no with the greater mark: all are told yes.
        Check.score(no(yes(1), 2), 2, 2, 3);
        // A few yes alone are better than all with many no.
        Check.score(no(yes(9, 0), 1, 2, 3, 4, 5), 2, 2, 3);
    }

    private static void noneToldYes() {
        Check.score(yes(), 2, 0, 1);
        Check.score(no(yes(), 1), 2, 0, 1);
        Check.score(no(yes(), MIN, 0, MAX), 2, 0, 1);
        PlainLearner x = yes(1);
        Check.score(x, 2, 1, 1);
        x.forget();
        Check.score(x, 2, 0, 1);
    }

    private static void places() {
        Check.score(yes(5), 3, 1, 1);
        Check.score(no(yes(5), 6), 3, 1, 2);
        Check.score(no(yes(5), 4), 3, 1, 1);
        Check.score(no(yes(5, 3), 4), 3, 2, 3);
    }

    /** 40 pairs of marks - 1 .. - 40, so that mark - r has place r; yes are those told, as told. */
    private static PlainLearner yesAtPlaces(int... places) {
        PlainLearner x = new PlainLearner();
        boolean[] isYes = new boolean[41];
        for (int place : places) {
            x.pair(-place, true);
            isYes[place] = true;
        }
        for (int place = 1; place <= 40; place++) {
            if (!isYes[place]) {
                x.pair(-place, false);
            }
        }
        return x;
    }

    /** 1 / 11 + 1 / 22 + 1 / 33 is 1 / 6: in that order there is room on the way, by size there is none. */
    private static void asTheyCame() {
        Check.score(yesAtPlaces(11, 22, 33, 27, 25, 19, 29, 17, 32), 3, 85157813, 1820944800);
        Check.score(yesAtPlaces(11, 17, 19, 22, 25, 27, 29, 32, 33), 3, 0, 0);
        Check.score(yesAtPlaces(33, 32, 29, 27, 25, 22, 19, 17, 11), 3, 0, 0);
    }

    private static void notBelow() {
        // Like marks all count, those of no as well.
        Check.score(no(yes(5), 5), 3, 1, 2);
        Check.score(no(yes(5, 5), 5), 3, 1, 3);
        Check.score(no(yes(5), 5, 5, 4), 3, 1, 3);
        PlainLearner x = new PlainLearner();
        for (int k = 0; k < 40; k++) {
            x.pair(MIN, true);
        }
        Check.score(x, 3, 1, 40);
    }

    /** 1 + 1 / 2 + .. 1 / n, / n: it has room up to 22; at 23 the share has none, at 25 the sum. */
    private static void roomOfPlaces() {
        PlainLearner x = new PlainLearner();
        for (int n = 1; n <= 22; n++) {
            x.pair(-n, true);
        }
        Check.score(x, 3, 19093197, 113809696);
        for (int n = 23; n <= 40; n++) {
            x.pair(-n, true);
            Check.score(x, 3, 0, 0);
        }
        // The others have room all the same.
        Check.score(x, 1, 1, 1);
        Check.score(x, 2, 1, 1);
    }

    private static void noYes() {
        Check.score(yes(), 3, 0, 0);
        Check.score(no(yes(), 1, 2), 3, 0, 0);
        Check.score(no(yes(0), 1, 2), 3, 1, 3);
    }

    private static void kinds() {
        PlainLearner x = no(yes(5, 3), 5, 1);
        for (int wrong : new int[] {MIN, -1, 4, 5, MAX}) {
            Check.due("score(" + wrong + ", 0)", x.score(wrong, 0), Check.BAD_FRACTION);
            Check.due("score(" + wrong + ", 1)", x.score(wrong, 1), Check.BAD_FRACTION);
        }
        Check.score(x, 0, 5, 8);
        Check.score(x, 1, 3, 4);
        Check.score(x, 2, 4, 5);
        Check.score(x, 3, 5, 12);
    }

    private static void wrongSides() {
        PlainLearner none = yes();
        PlainLearner x = no(yes(5, 3), 5, 1);
        for (int wrong : new int[] {MIN, -1, 2, 3, MAX}) {
            for (int kind = 0; kind < 4; kind++) {
                Check.due("score(" + kind + ", " + wrong + ")", x.score(kind, wrong), Check.BAD_FRACTION);
                Check.due("score(" + kind + ", " + wrong + ") of none", none.score(kind, wrong), Check.BAD_FRACTION);
            }
        }
    }

    private static void howMany() {
        PlainLearner x = new PlainLearner();
        for (int k = 1; k <= 40; k++) {
            Check.due("pair", x.pair(k % 2 == 0 ? MIN : MAX, k % 3 == 0), k);
        }
        for (int k = 0; k < 3; k++) {
            Check.due("pair", x.pair(k, true), -3);
        }
    }

    private static void forgetting() {
        PlainLearner x = new PlainLearner();
        Check.due("forget() of none", x.forget(), 0);
        Full.pairs(x, 40);
        Check.due("forget()", x.forget(), 40);
        Check.due("forget() again", x.forget(), 0);
        Check.due("count(3)", x.count(3), 0);
        Check.due("pair", x.pair(0, false), 1);
        Check.score(x, 1, 1, 1);
        Check.score(x, 3, 0, 0);
        for (int k = 2; k <= 40; k++) {
            Check.due("pair", x.pair(0, false), k);
        }
        Check.due("pair", x.pair(0, false), -3);
    }
}
