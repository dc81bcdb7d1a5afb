/** Promises 1 and 29, and the constants. */
public final class NewObjectTest {
    public static void main(String[] args) {
        constants();
        nothingIsThere();
        counts();
        objectsAreApart();
        Check.end();
    }

    private static void constants() {
        Check.due("BAD", PlainLearner.BAD, -1);
        Check.due("NONE", PlainLearner.NONE, -2);
        Check.due("FULL", PlainLearner.FULL, -3);
        Check.due("TURN", PlainLearner.TURN, -4);
    }

    private static void nothingIsThere() {
        PlainLearner x = new PlainLearner();
        for (int what = 0; what <= 6; what++) {
            Check.due("count(" + what + ")", x.count(what), 0);
        }
        Check.due("node(0, 0)", x.node(0, 0), -1);
        Check.due("best()", x.best(), -2);
        Check.due("cut(0)", x.cut(0), 10000);
        Check.due("clear()", x.clear(), 0);
        Check.due("forget()", x.forget(), 0);
        Check.due("empty()", x.empty(), 0);
        Check.due("token(0)", x.token(0), -2);
        Check.due("merge()", x.merge(), -2);
        Check.due("encode()", x.encode(), 0);
        Check.due("worth(1, 1)", x.worth(1, 1), -1);
        Check.due("share(0, 0)", x.share(0, 0), Check.BAD_FRACTION);
        // RATE is 1 / 10: from 1 a slope of 1 leads to 9 / 10, which is 3686 / 4096.
        x.leaf(0, 0, 0, 0);
        x.tell(0, 0, 1, 1);
        x.parameter(0, true);
        Check.due("train(0, 1)", x.train(0, 1), 0);
        Check.value(x, 0, 0, 1843, 2048);
    }

    private static void counts() {
        PlainLearner x = new PlainLearner();
        x.leaf(0, 0, 0, 0);
        x.leaf(1, 3, 0, 0);
        x.act(10, 0, 0);
        x.row(1, 2, 3, 4, 0);
        x.game(5);
        x.pair(1, true);
        x.pair(2, false);
        Check.feed(x, "ababcd");
        x.merge();
        x.parameter(0, true);
        x.parameter(1, true);
        x.parameter(1, true);
        int[] want = {3, 1, 5, 2, 4, 1, 2};
        for (int what = 0; what < want.length; what++) {
            Check.due("count(" + what + ")", x.count(what), want[what]);
        }
        int[] wrong = {-1, 7, Integer.MIN_VALUE, Integer.MAX_VALUE};
        for (int what : wrong) {
            Check.due("count(" + what + ")", x.count(what), -1);
        }
        x.parameter(0, false);
        Check.due("count(6)", x.count(6), 1);
    }

    private static void objectsAreApart() {
        PlainLearner x = new PlainLearner();
        PlainLearner y = new PlainLearner();
        x.leaf(0, 0, 0, 0);
        x.game(3);
        x.worth(1, 5);
        Check.due("other's count(0)", y.count(0), 0);
        Check.due("other's count(2)", y.count(2), 0);
    }
}
