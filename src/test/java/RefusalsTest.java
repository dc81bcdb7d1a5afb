import java.util.function.Consumer;
import java.util.function.ToLongFunction;

/** "What is refused changes nothing", for every call that can be refused, and which refusal goes first. */
public final class RefusalsTest {
    private static final int MIN = Integer.MIN_VALUE, MAX = Integer.MAX_VALUE;
    private static final int BAD = -1, NONE = -2, FULL = -3, TURN = -4;
    private static final int[] NO_NODE = {MIN, -1, 11, 50, MAX};
    private static final int[] NO_SIDE = {MIN, -1, 2, MAX};

    public static void main(String[] args) {
        Check.sentence("BAD .. changes nothing: leaf", RefusalsTest::badLeaves);
        Check.sentence("BAD .. changes nothing: tell", RefusalsTest::badTells);
        Check.sentence("BAD .. changes nothing: act", RefusalsTest::badActs);
        Check.sentence("BAD .. changes nothing: node, value, slope, ways", RefusalsTest::badQuestions);
        Check.sentence("BAD .. changes nothing: parameter, rate, train", RefusalsTest::badTraining);
        Check.sentence("BAD .. changes nothing: row, cut, cost", RefusalsTest::badTables);
        Check.sentence("BAD .. changes nothing: game, worth, share", RefusalsTest::badGames);
        Check.sentence("BAD .. changes nothing: score, count", RefusalsTest::badScores);
        Check.sentence("BAD .. changes nothing: feed, merged", RefusalsTest::badTokens);
        Check.sentence("FULL .. changes nothing: leaf, act (64 CELLS)", RefusalsTest::fullOfCells);
        Check.sentence("FULL .. changes nothing: leaf, act (50 nodes)", RefusalsTest::fullOfNodes);
        Check.sentence("FULL .. changes nothing: row", RefusalsTest::fullOfRows);
        Check.sentence("FULL .. changes nothing: pair", RefusalsTest::fullOfPairs);
        Check.sentence("FULL .. changes nothing: feed", RefusalsTest::fullOfTokens);
        Check.sentence("FULL .. changes nothing: merge", RefusalsTest::fullOfMerges);
        Check.sentence("TURN .. changes nothing: train", RefusalsTest::turn);
        Check.sentence("NONE changes nothing: merge, best, token", RefusalsTest::none);
        Check.sentence("BAD (looked at first): ahead of FULL, leaf", RefusalsTest::badAheadOfFullLeaf);
        Check.sentence("BAD (looked at first): ahead of FULL, act", RefusalsTest::badAheadOfFullAct);
        Check.sentence("BAD (looked at first): ahead of FULL, row", RefusalsTest::badAheadOfFullRow);
        Check.sentence("BAD (looked at first): ahead of FULL, feed", RefusalsTest::badAheadOfFullFeed);
        Check.sentence("BAD (looked at first): ahead of TURN, train", RefusalsTest::badAheadOfTurn);
        Check.sentence("NONE: no pair stands twice; else FULL", RefusalsTest::noneAheadOfFull);
        Check.sentence("Nothing is promised beyond: questions change nothing", RefusalsTest::questions);
        Check.sentence("0 STEPS change nothing", RefusalsTest::noSteps);
        Check.end();
    }

    /** Something of everything, in some 90 calls: 11 nodes, 5 rows, 3 players, 5 pairs, 2 merges. */
    private static void some(PlainLearner x) {
        x.leaf(2, 2, 3, 0);
        x.leaf(1, 3, 0, 0);
        x.leaf(0, 0, 0, 0);
        for (int i = 0; i < 6; i++) {
            x.tell(0, i, i - 2, 1 + i % 2);
        }
        for (int i = 0; i < 3; i++) {
            x.tell(1, i, 2 * i - 1, 3);
        }
        x.tell(2, 0, 3, 7);
        x.act(2, 0, 1);
        x.act(7, 3, 1);
        x.act(13, 4, 0);
        x.act(15, 5, 0);
        x.act(2, 6, 2);
        x.leaf(3, 1, 2, 1);
        x.tell(8, 1, 1, 0);
        x.act(10, 8, 0);
        x.act(1, 7, 2);
        x.parameter(0, true);
        x.parameter(2, true);
        x.rate(1, 7);
        // Values that have been reckoned already must stay right as well.
        x.value(10, 0, 0);
        for (int k = 0; k < 5; k++) {
            x.row(k, 3 * k % 5, -k, 2, k % 3);
            x.pair(4 * k % 7, k % 2 == 0);
        }
        x.game(3);
        for (int set = 1; set < 8; set++) {
            x.worth(set, set * set);
        }
        x.feed(Check.bytes("abcabcd"), 7);
        x.merge();
        x.merge();
        x.feed(Check.bytes("dede"), 4);
    }

    private static void refused(String name, ToLongFunction<PlainLearner> call, long due) {
        Untouched.by(name, RefusalsTest::some, call, due);
    }

    private static void badLeaves() {
        int[][] wrong = {{-1, 1, 1, 1}, {4, 1, 1, 1}, {MIN, 1, 1, 1}, {MAX, 1, 1, 1}, {1, 0, 1, 1}, {1, 65, 1, 1},
            {2, 1, 0, 1}, {2, 1, 65, 1}, {3, 1, 1, 0}, {3, 1, 1, 65}, {3, MIN, MIN, MIN}, {3, MAX, MAX, MAX}};
        for (int[] w : wrong) {
            String name = "leaf(" + w[0] + ", " + w[1] + ", " + w[2] + ", " + w[3] + ")";
            refused(name, x -> x.leaf(w[0], w[1], w[2], w[3]), BAD);
        }
    }

    private static void badTells() {
        for (int w : NO_NODE) {
            refused("tell(" + w + ", 0, 1, 1)", x -> x.tell(w, 0, 1, 1), BAD);
        }
        for (int act : new int[] {3, 9, 10}) {
            refused("tell(" + act + ", 0, 5, 1): no LEAF", x -> x.tell(act, 0, 5, 1), BAD);
            refused("tell(" + act + ", 0, 5, 0): no LEAF", x -> x.tell(act, 0, 5, 0), BAD);
        }
        for (int i : new int[] {MIN, -1, 3, MAX}) {
            refused("tell(1, " + i + ", 5, 1)", x -> x.tell(1, i, 5, 1), BAD);
            refused("tell(1, " + i + ", 5, 0)", x -> x.tell(1, i, 5, 0), BAD);
        }
    }

    private static void badActs() {
        for (int op : new int[] {MIN, -1, 16, MAX}) {
            refused("act(" + op + ", 0, 0)", x -> x.act(op, 0, 0), BAD);
        }
        for (int w : NO_NODE) {
            refused("act(0, " + w + ", 0)", x -> x.act(0, w, 0), BAD);
            refused("act(0, 0, " + w + ")", x -> x.act(0, 0, w), BAD);
            refused("act(10, " + w + ", 0)", x -> x.act(10, w, 0), BAD);
        }
        int[][] wrong = {{0, 0, 4}, {4, 0, 0}, {4, 0, 1}, {5, 0, 2}, {6, 0, -1}, {7, 2, 0}, {8, 0, 2}, {8, 0, -1}, {9, 1, 0},
            {9, 0, 1}, {10, 0, 1}, {11, 0, 1}, {12, 0, 1}, {13, 0, 1}, {14, 0, 1}, {15, 0, 1}};
        for (int[] w : wrong) {
            refused("act(" + w[0] + ", " + w[1] + ", " + w[2] + ")", x -> x.act(w[0], w[1], w[2]), BAD);
        }
    }

    private static void badQuestions() {
        for (int w : NO_NODE) {
            refused("node(" + w + ", 0)", x -> x.node(w, 0), BAD);
            refused("value(" + w + ", 0, 0)", x -> x.value(w, 0, 0), Check.BAD_FRACTION);
            refused("slope(" + w + ", 0, 0, 0)", x -> x.slope(w, 0, 0, 0), Check.BAD_FRACTION);
            refused("slope(7, " + w + ", 0, 0)", x -> x.slope(7, w, 0, 0), Check.BAD_FRACTION);
            refused("ways(" + w + ", 0)", x -> x.ways(w, 0), BAD);
            refused("ways(7, " + w + ")", x -> x.ways(7, w), BAD);
        }
        for (int what : new int[] {MIN, -1, 8, MAX}) {
            refused("node(0, " + what + ")", x -> x.node(0, what), BAD);
        }
        for (int i : new int[] {MIN, -1, 6, MAX}) {
            refused("value(0, " + i + ", 0)", x -> x.value(0, i, 0), Check.BAD_FRACTION);
            refused("slope(7, 0, " + i + ", 0)", x -> x.slope(7, 0, i, 0), Check.BAD_FRACTION);
        }
        for (int side : NO_SIDE) {
            refused("value(0, 0, " + side + ")", x -> x.value(0, 0, side), Check.BAD_FRACTION);
            refused("slope(7, 0, 0, " + side + ")", x -> x.slope(7, 0, 0, side), Check.BAD_FRACTION);
        }
        refused("slope(6, 7, 0, 0): a later node", x -> x.slope(6, 7, 0, 0), Check.BAD_FRACTION);
        refused("ways(6, 7): a later node", x -> x.ways(6, 7), BAD);
    }

    private static void badTraining() {
        for (int w : NO_NODE) {
            refused("parameter(" + w + ", true)", x -> x.parameter(w, true), BAD);
            refused("train(" + w + ", 1)", x -> x.train(w, 1), BAD);
        }
        refused("parameter(3, true): no LEAF", x -> x.parameter(3, true), BAD);
        refused("parameter(3, false): no LEAF", x -> x.parameter(3, false), BAD);
        for (int q : new int[] {MIN, -1, 0}) {
            refused("rate(1, " + q + ")", x -> x.rate(1, q), BAD);
            refused("rate(MIN, " + q + ")", x -> x.rate(MIN, q), BAD);
        }
        for (int steps : new int[] {MIN, -1, 21, MAX}) {
            refused("train(7, " + steps + ")", x -> x.train(7, steps), BAD);
        }
    }

    private static void badTables() {
        for (int w : new int[] {MIN, -1001, 1001, MAX}) {
            refused("row(" + w + ", 0, 0, 0, 0)", x -> x.row(w, 0, 0, 0, 0), BAD);
            refused("row(0, " + w + ", 0, 0, 0)", x -> x.row(0, w, 0, 0, 0), BAD);
            refused("row(0, 0, " + w + ", 0, 0)", x -> x.row(0, 0, w, 0, 0), BAD);
            refused("row(0, 0, 0, " + w + ", 0)", x -> x.row(0, 0, 0, w, 0), BAD);
        }
        for (int w : new int[] {MIN, -1, 4, MAX}) {
            refused("row(0, 0, 0, 0, " + w + ")", x -> x.row(0, 0, 0, 0, w), BAD);
            refused("cut(" + w + ")", x -> x.cut(w), BAD);
            refused("cost(" + w + ", 0, 0)", x -> x.cost(w, 0, 0), Check.BAD_FRACTION);
        }
        for (int side : NO_SIDE) {
            refused("cost(0, 0, " + side + ")", x -> x.cost(0, 0, side), Check.BAD_FRACTION);
        }
    }

    private static void badGames() {
        for (int n : new int[] {MIN, -1, 9, MAX}) {
            refused("game(" + n + ")", x -> x.game(n), BAD);
        }
        for (int set : new int[] {MIN, -1, 0, 8, MAX}) {
            refused("worth(" + set + ", 5)", x -> x.worth(set, 5), BAD);
        }
        for (int v : new int[] {MIN, -10001, 10001, MAX}) {
            refused("worth(1, " + v + ")", x -> x.worth(1, v), BAD);
        }
        for (int player : new int[] {MIN, -1, 3, MAX}) {
            refused("share(" + player + ", 0)", x -> x.share(player, 0), Check.BAD_FRACTION);
        }
        for (int side : NO_SIDE) {
            refused("share(0, " + side + ")", x -> x.share(0, side), Check.BAD_FRACTION);
        }
    }

    private static void badScores() {
        for (int kind : new int[] {MIN, -1, 4, MAX}) {
            refused("score(" + kind + ", 0)", x -> x.score(kind, 0), Check.BAD_FRACTION);
        }
        for (int side : NO_SIDE) {
            refused("score(0, " + side + ")", x -> x.score(0, side), Check.BAD_FRACTION);
        }
        for (int what : new int[] {MIN, -1, 7, MAX}) {
            refused("count(" + what + ")", x -> x.count(what), BAD);
        }
    }

    private static void badTokens() {
        for (int n : new int[] {MIN, -1, 0, 9, MAX}) {
            refused("feed(abcdefgh, " + n + ")", x -> x.feed(Check.bytes("abcdefgh"), n), BAD);
        }
        // The letters ahead of the wrong one do not come either.
        for (String text : new String[] {"A", "abC", "abcdefg{", "`bcdefgh"}) {
            refused("feed(" + text + ")", x -> x.feed(Check.bytes(text), text.length()), BAD);
        }
        for (int i : new int[] {MIN, -1, 2, MAX}) {
            refused("merged(" + i + ", 0)", x -> x.merged(i, 0), BAD);
        }
        for (int what : new int[] {MIN, -1, 3, MAX}) {
            refused("merged(0, " + what + ")", x -> x.merged(0, what), BAD);
        }
    }

    private static void fullOfCells() {
        refused("leaf(2, 5, 13, 0)", x -> x.leaf(2, 5, 13, 0), FULL);
        refused("leaf(3, 64, 64, 64)", x -> x.leaf(3, 64, 64, 64), FULL);
        Consumer<PlainLearner> wide = x -> {
            some(x);
            x.leaf(2, 64, 1, 0);
            x.leaf(2, 1, 2, 0);
        };
        for (int op = 0; op <= 4; op++) {
            int o = op;
            Untouched.by("act(" + op + ", 11, 12)", wide, x -> x.act(o, 11, 12), FULL);
        }
    }

    private static void fifty(PlainLearner x) {
        x.leaf(0, 0, 0, 0);
        x.tell(0, 0, 1, 3);
        x.parameter(0, true);
        x.act(13, 0, 0);
        Full.nodes(x, 50);
    }

    private static void fullOfNodes() {
        Untouched.by("leaf(0, 0, 0, 0)", RefusalsTest::fifty, x -> x.leaf(0, 0, 0, 0), FULL);
        Untouched.by("leaf(1, 64, 0, 0)", RefusalsTest::fifty, x -> x.leaf(1, 64, 0, 0), FULL);
        Untouched.by("leaf(2, 64, 64, 0)", RefusalsTest::fifty, x -> x.leaf(2, 64, 64, 0), FULL);
        Untouched.by("act(0, 0, 1)", RefusalsTest::fifty, x -> x.act(0, 0, 1), FULL);
        Untouched.by("act(15, 1, 0)", RefusalsTest::fifty, x -> x.act(15, 1, 0), FULL);
    }

    private static void fullOfRows() {
        Untouched.by("row(0, 0, 0, 0, 0)", x -> Full.rows(x, 40), x -> x.row(0, 0, 0, 0, 0), FULL);
        Untouched.by("row(1000, -1000, 1, 2, 3)", x -> Full.rows(x, 40), x -> x.row(1000, -1000, 1, 2, 3), FULL);
    }

    private static void fullOfPairs() {
        Untouched.by("pair(5, true)", x -> Full.pairs(x, 40), x -> x.pair(5, true), FULL);
        Untouched.by("pair(MIN, false)", x -> Full.pairs(x, 40), x -> x.pair(MIN, false), FULL);
    }

    private static void fullOfTokens() {
        Untouched.by("feed(z, 1)", x -> Full.text(x, 200), x -> x.feed('z', 1), FULL);
        // What would have room of it does not come either.
        Untouched.by("feed(zz, 2)", x -> Full.text(x, 199), x -> x.feed(Check.bytes("zz"), 2), FULL);
        Untouched.by("feed(zzzzzzzz, 8)", x -> Full.text(x, 193), x -> x.feed(Check.bytes("zzzzzzzz"), 8), FULL);
    }

    private static void fullOfMerges() {
        Untouched.by("merge()", x -> {
            Full.merges(x, 60);
            x.feed(Check.bytes("xyxy"), 4);
        }, PlainLearner::merge, FULL);
    }

    private static void turn() {
        for (int node : new int[] {0, 1, 3, 4, 5, 8, 9}) {
            refused("train(" + node + ", 1)", x -> x.train(node, 1), TURN);
            refused("train(" + node + ", 0)", x -> x.train(node, 0), TURN);
            refused("train(" + node + ", 20)", x -> x.train(node, 20), TURN);
        }
    }

    private static void none() {
        Untouched.by("merge()", x -> {
            some(x);
            x.empty();
            x.feed(Check.bytes("aaabc"), 5);
        }, PlainLearner::merge, NONE);
        Untouched.by("best()", x -> {
            some(x);
            x.clear();
            x.row(1, 2, 3, 4, 0);
        }, PlainLearner::best, NONE);
        for (int i : new int[] {MIN, -1, 200, MAX}) {
            refused("token(" + i + ")", x -> x.token(i), NONE);
        }
    }

    private static void badAheadOfFullLeaf() {
        PlainLearner x = new PlainLearner();
        fifty(x);
        Check.due("leaf(0, ..)", x.leaf(0, 0, 0, 0), FULL);
        Check.due("leaf(-1, ..)", x.leaf(-1, 1, 1, 1), BAD);
        Check.due("leaf(4, ..)", x.leaf(4, 1, 1, 1), BAD);
        Check.due("leaf(1, 0, ..)", x.leaf(1, 0, 1, 1), BAD);
        Check.due("leaf(1, 65, ..)", x.leaf(1, 65, 1, 1), BAD);
        Check.due("leaf(3, 64, 64, 0)", x.leaf(3, 64, 64, 0), BAD);
        Check.due("leaf(3, 64, 64, 64)", x.leaf(3, 64, 64, 64), FULL);
        PlainLearner y = new PlainLearner();
        Check.due("leaf(2, 64, 65, 0)", y.leaf(2, 64, 65, 0), BAD);
        Check.due("leaf(3, 64, 64, 65)", y.leaf(3, 64, 64, 65), BAD);
        Check.due("leaf(3, 65, 64, 64)", y.leaf(3, 65, 64, 64), BAD);
        Check.due("leaf(2, 64, 64, 65)", y.leaf(2, 64, 64, 65), FULL);
    }

    private static void badAheadOfFullAct() {
        PlainLearner x = new PlainLearner();
        x.leaf(1, 3, 0, 0);
        x.leaf(1, 2, 0, 0);
        Full.nodes(x, 50);
        Check.due("act(0, 0, 0)", x.act(0, 0, 0), FULL);
        Check.due("act(16, 0, 0)", x.act(16, 0, 0), BAD);
        Check.due("act(-1, 0, 0)", x.act(-1, 0, 0), BAD);
        Check.due("act(0, 0, 1)", x.act(0, 0, 1), BAD);
        Check.due("act(0, 50, 0)", x.act(0, 50, 0), BAD);
        Check.due("act(0, 0, 50)", x.act(0, 0, 50), BAD);
        Check.due("act(4, 0, 0)", x.act(4, 0, 0), BAD);
        Check.due("act(5, 0, 1)", x.act(5, 0, 1), BAD);
        Check.due("act(8, 0, 3)", x.act(8, 0, 3), BAD);
        Check.due("act(9, 0, 0)", x.act(9, 0, 0), BAD);
        Check.due("act(10, 0, 1)", x.act(10, 0, 1), BAD);
        Check.due("act(10, 49, 0)", x.act(10, 49, 0), FULL);
    }

    private static void badAheadOfFullRow() {
        PlainLearner x = new PlainLearner();
        Full.rows(x, 40);
        Check.due("row(0, 0, 0, 0, 0)", x.row(0, 0, 0, 0, 0), FULL);
        Check.due("row(1001, 0, 0, 0, 0)", x.row(1001, 0, 0, 0, 0), BAD);
        Check.due("row(0, -1001, 0, 0, 0)", x.row(0, -1001, 0, 0, 0), BAD);
        Check.due("row(0, 0, 1001, 0, 0)", x.row(0, 0, 1001, 0, 0), BAD);
        Check.due("row(0, 0, 0, -1001, 0)", x.row(0, 0, 0, -1001, 0), BAD);
        Check.due("row(0, 0, 0, 0, 4)", x.row(0, 0, 0, 0, 4), BAD);
        Check.due("row(0, 0, 0, 0, -1)", x.row(0, 0, 0, 0, -1), BAD);
    }

    private static void badAheadOfFullFeed() {
        PlainLearner x = new PlainLearner();
        Full.text(x, 200);
        Check.due("feed(a, 1)", x.feed('a', 1), FULL);
        Check.due("feed(A, 1)", x.feed('A', 1), BAD);
        Check.due("feed(aaaaaaaA, 8)", x.feed(Check.bytes("aaaaaaaA"), 8), BAD);
        Check.due("feed(a, 0)", x.feed('a', 0), BAD);
        Check.due("feed(aaaaaaaa, 9)", x.feed(Check.bytes("aaaaaaaa"), 9), BAD);
        Check.due("feed(a, -1)", x.feed('a', -1), BAD);
    }

    private static void badAheadOfTurn() {
        PlainLearner x = new PlainLearner();
        x.leaf(1, 2, 0, 0);
        Check.due("train(0, 1)", x.train(0, 1), TURN);
        Check.due("train(0, 21)", x.train(0, 21), BAD);
        Check.due("train(0, -1)", x.train(0, -1), BAD);
        Check.due("train(1, 1)", x.train(1, 1), BAD);
    }

    private static void noneAheadOfFull() {
        PlainLearner x = new PlainLearner();
        Full.merges(x, 60);
        Check.due("merge() where no pair stands twice", x.merge(), NONE);
        x.feed(Check.bytes("xyxy"), 4);
        Check.due("merge()", x.merge(), FULL);
    }

    private static void questions() {
        refused("value(10, 0, 1)", x -> x.value(10, 0, 1), 84);
        refused("value(8, 1, 1): WILD", x -> x.value(8, 1, 1), 0);
        refused("slope(9, 8, 1, 0)", x -> x.slope(9, 8, 1, 0), -1);
        refused("slope(7, 7, 0, 0)", x -> x.slope(7, 7, 0, 0), 1);
        refused("ways(10, 2)", x -> x.ways(10, 2), 2);
        refused("ways(10, 8)", x -> x.ways(10, 8), 0);
        refused("node(8, 4)", x -> x.node(8, 4), 2);
        refused("cut(3)", x -> x.cut(3), 10000);
        refused("cost(0, 100, 0)", x -> x.cost(0, 100, 0), 0);
        refused("share(0, 1)", x -> x.share(0, 1), 1);
        refused("score(3, 1)", x -> x.score(3, 1), 180);
        refused("merged(1, 2)", x -> x.merged(1, 2), 3);
        refused("token(0)", x -> x.token(0), 27);
        refused("count(6)", x -> x.count(6), 2);
        refused("parameter(0, true): it is one", x -> x.parameter(0, true), 1);
        refused("rate(2, 14): the same", x -> x.rate(2, 14), 0);
    }

    private static void noSteps() {
        refused("train(7, 0)", x -> x.train(7, 0), 0);
        refused("train(2, 0)", x -> x.train(2, 0), 0);
    }
}
