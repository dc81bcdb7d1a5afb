/** The boundary cases of "What it is" and of promises 1 and 29, a test for each sentence. */
public final class ObjectBoundsTest {
    private static final int MIN = Integer.MIN_VALUE, MAX = Integer.MAX_VALUE;

    public static void main(String[] args) {
        Check.sentence("An object is used for at most 512 calls after it has been made", ObjectBoundsTest::lastCall);
        Check.sentence("Nothing is there", ObjectBoundsTest::nothingThere);
        Check.sentence("Nothing is there: no nodes", ObjectBoundsTest::noNodes);
        Check.sentence("Nothing is there: no rows", ObjectBoundsTest::noRows);
        Check.sentence("Nothing is there: no pairs", ObjectBoundsTest::noPairs);
        Check.sentence("Nothing is there: no TEXT, no MERGES", ObjectBoundsTest::noText);
        Check.sentence("RATE is 1 / 10", ObjectBoundsTest::firstRate);
        Check.sentence("no players", ObjectBoundsTest::noPlayers);
        Check.sentence("How many nodes (0)", ObjectBoundsTest::nodes);
        Check.sentence("rows (1)", ObjectBoundsTest::rows);
        Check.sentence("players (2)", ObjectBoundsTest::players);
        Check.sentence("pairs (3)", ObjectBoundsTest::pairs);
        Check.sentence("tokens of the TEXT (4)", ObjectBoundsTest::tokens);
        Check.sentence("MERGES (5)", ObjectBoundsTest::merges);
        Check.sentence("PARAMETERS (6)", ObjectBoundsTest::parameters);
        Check.sentence("count: BAD", ObjectBoundsTest::wrongCounts);
        Check.end();
    }

    private static void lastCall() {
        PlainLearner x = new PlainLearner();
        x.leaf(0, 0, 0, 0);
        for (int k = 0; k < 49; k++) {
            x.act(10, k, 0);
        }
        for (int k = 1; k <= 461; k++) {
            x.tell(0, 0, k, 1);
        }
        Check.due("the 512th call, value(49, 0, 0),", x.value(49, 0, 0), -461);
    }

    private static void nothingThere() {
        PlainLearner x = new PlainLearner();
        for (int what = 0; what <= 6; what++) {
            Check.due("count(" + what + ")", x.count(what), 0);
        }
    }

    private static void noNodes() {
        PlainLearner x = new PlainLearner();
        Check.due("tell(0, 0, 1, 1)", x.tell(0, 0, 1, 1), -1);
        for (int op = 0; op <= 15; op++) {
            Check.due("act(" + op + ", 0, 0)", x.act(op, 0, 0), -1);
        }
        for (int what = 0; what <= 7; what++) {
            Check.due("node(0, " + what + ")", x.node(0, what), -1);
        }
        Check.due("value(0, 0, 0)", x.value(0, 0, 0), Check.BAD_FRACTION);
        Check.due("slope(0, 0, 0, 0)", x.slope(0, 0, 0, 0), Check.BAD_FRACTION);
        Check.due("ways(0, 0)", x.ways(0, 0), -1);
        Check.due("parameter(0, true)", x.parameter(0, true), -1);
        Check.due("train(0, 0)", x.train(0, 0), -1);
        Check.due("train(0, 1)", x.train(0, 1), -1);
        Check.due("the first leaf", x.leaf(0, 0, 0, 0), 0);
    }

    private static void noRows() {
        PlainLearner x = new PlainLearner();
        for (int column = 0; column < 4; column++) {
            Check.due("cut(" + column + ")", x.cut(column), 10000);
            Check.cost(x, column, 0, 0, 0);
        }
        Check.due("best()", x.best(), -2);
        Check.due("clear()", x.clear(), 0);
    }

    private static void noPairs() {
        PlainLearner x = new PlainLearner();
        Check.score(x, 0, 0, 0);
        Check.score(x, 1, 0, 0);
        Check.score(x, 2, 0, 1);
        Check.score(x, 3, 0, 0);
        Check.due("forget()", x.forget(), 0);
    }

    private static void noText() {
        PlainLearner x = new PlainLearner();
        Check.due("token(0)", x.token(0), -2);
        Check.due("empty()", x.empty(), 0);
        Check.due("merge()", x.merge(), -2);
        Check.due("encode()", x.encode(), 0);
        Check.due("merged(0, 0)", x.merged(0, 0), -1);
    }

    /** A leaf's slope by itself is 1: from 0 a step leads to - 1 / 10, which is - 409.6 / 4096. */
    private static void firstRate() {
        PlainLearner x = new PlainLearner();
        x.leaf(0, 0, 0, 0);
        x.parameter(0, true);
        Check.due("train(0, 1)", x.train(0, 1), 0);
        Check.value(x, 0, 0, -205, 2048);
    }

    private static void noPlayers() {
        PlainLearner x = new PlainLearner();
        Check.due("count(2)", x.count(2), 0);
        Check.due("worth(0, 0)", x.worth(0, 0), -1);
        Check.due("worth(1, 0)", x.worth(1, 0), -1);
        Check.due("share(0, 0)", x.share(0, 0), Check.BAD_FRACTION);
        Check.due("share(0, 1)", x.share(0, 1), Check.BAD_FRACTION);
    }

    private static void nodes() {
        PlainLearner x = new PlainLearner();
        Full.nodes(x, 49);
        x.act(10, 0, 0);
        Check.due("count(0)", x.count(0), 50);
        x.leaf(0, 0, 0, 0);
        Check.due("count(0)", x.count(0), 50);
    }

    private static void rows() {
        PlainLearner x = new PlainLearner();
        Full.rows(x, 40);
        Check.due("count(1)", x.count(1), 40);
        x.row(1, 1, 1, 1, 1);
        Check.due("count(1)", x.count(1), 40);
        x.clear();
        Check.due("count(1)", x.count(1), 0);
    }

    private static void players() {
        PlainLearner x = new PlainLearner();
        x.game(8);
        Check.due("count(2)", x.count(2), 8);
        x.game(9);
        Check.due("count(2)", x.count(2), 8);
        x.game(0);
        Check.due("count(2)", x.count(2), 0);
    }

    private static void pairs() {
        PlainLearner x = new PlainLearner();
        Full.pairs(x, 40);
        Check.due("count(3)", x.count(3), 40);
        x.pair(1, true);
        Check.due("count(3)", x.count(3), 40);
        x.forget();
        Check.due("count(3)", x.count(3), 0);
    }

    private static void tokens() {
        PlainLearner x = new PlainLearner();
        Full.text(x, 200);
        Check.due("count(4)", x.count(4), 200);
        x.feed('a', 1);
        Check.due("count(4)", x.count(4), 200);
        x.merge();
        Check.due("count(4) behind a MERGE of 25 pairs", x.count(4), 175);
        x.empty();
        Check.due("count(4)", x.count(4), 0);
    }

    private static void merges() {
        PlainLearner x = new PlainLearner();
        Full.merges(x, 60);
        Check.due("count(5)", x.count(5), 60);
        x.feed(Check.bytes("abab"), 4);
        x.merge();
        Check.due("count(5)", x.count(5), 60);
        x.empty();
        Check.due("count(5)", x.count(5), 60);
    }

    private static void parameters() {
        PlainLearner x = new PlainLearner();
        Full.nodes(x, 50);
        for (int k = 0; k < 50; k++) {
            x.parameter(k, true);
        }
        Check.due("count(6)", x.count(6), 50);
        x.parameter(49, true);
        Check.due("count(6)", x.count(6), 50);
        x.parameter(49, false);
        Check.due("count(6)", x.count(6), 49);
    }

    private static void wrongCounts() {
        PlainLearner x = new PlainLearner();
        for (int what : new int[] {MIN, -1, 7, 8, MAX}) {
            Check.due("count(" + what + ")", x.count(what), -1);
        }
    }
}
