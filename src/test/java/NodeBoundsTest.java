/** The boundary cases of "2 NODES" and of promises 2 to 6, a test for each sentence. */
public final class NodeBoundsTest {
    private static final int MIN = Integer.MIN_VALUE, MAX = Integer.MAX_VALUE;

    public static void main(String[] args) {
        Check.sentence("NODES, 50", NodeBoundsTest::fifty);
        Check.sentence("in order", NodeBoundsTest::inOrder);
        Check.sentence("up to 3 SIDES; n SIDES (0 .. 3)", NodeBoundsTest::upToThreeSides);
        Check.sentence("(1 .. 64 each", NodeBoundsTest::lengthOfSides);
        Check.sentence("none: one CELL)", NodeBoundsTest::noSides);
        Check.sentence("at most 64 CELLS; FULL (also above 64 CELLS)", NodeBoundsTest::cellsOfLeaves);
        Check.sentence("those of the last side one behind the other", NodeBoundsTest::lastSideFirst);
        Check.sentence("reckoned when asked, of what the LEAVES are then", NodeBoundsTest::reckonedWhenAsked);
        Check.sentence("ACTS on earlier nodes", NodeBoundsTest::onEarlierNodes);
        Check.sentence("each two are the same", NodeBoundsTest::sameSides);
        Check.sentence("or one of them is 1", NodeBoundsTest::sidesOfOne);
        Check.sentence("or there is none", NodeBoundsTest::missingSides);
        Check.sentence("the result has the greater ones", NodeBoundsTest::greaterOnes);
        Check.sentence("both of two SIDES, the last one of a being the first one of b", NodeBoundsTest::matrices);
        Check.sentence("along side n, which is gone then", NodeBoundsTest::alongSides);
        Check.sentence("the MEAN (SUM / how many)", NodeBoundsTest::meanOfOne);
        Check.sentence("the GREATEST (of several the first)", NodeBoundsTest::greatest);
        Check.sentence("CELLS n of the first side alone (it is gone)", NodeBoundsTest::pick);
        Check.sentence("the last two SIDES changed for one another (n 0)", NodeBoundsTest::turned);
        Check.sentence("a above 0, else 0", NodeBoundsTest::aboveNone);
        Check.sentence("a without its sign", NodeBoundsTest::withoutSign);
        Check.sentence("all CELLS in order as one side", NodeBoundsTest::flat);
        Check.sentence("the SUM of all (no SIDES)", NodeBoundsTest::sumOfAll);
        Check.sentence("10 .. 15: n 0", NodeBoundsTest::numberNone);
        Check.sentence("those beyond do not count", NodeBoundsTest::sidesBeyond);
        Check.sentence("A LEAF of n SIDES, all 0", NodeBoundsTest::leafOfNoughts);
        Check.sentence("tell: 0; 1 if it is WILD", NodeBoundsTest::toldWild);
        Check.sentence("tell: BAD (no LEAF)", NodeBoundsTest::tellNoLeaf);
        Check.sentence("tell: BAD (CELL i)", NodeBoundsTest::tellNoCell);
        Check.sentence("act: BAD (op)", NodeBoundsTest::wrongOps);
        Check.sentence("act: BAD (a, b)", NodeBoundsTest::wrongNodes);
        Check.sentence("act: BAD (also nodes that do not fit)", NodeBoundsTest::notFitting);
        Check.sentence("act: FULL (also above 64 CELLS", NodeBoundsTest::cellsOfActs);
        Check.sentence(", 3 SIDES)", NodeBoundsTest::neverAboveThreeSides);
        Check.sentence("side what - 1 (1 to 3; 0 when it has not so many)", NodeBoundsTest::sidesToldOf);
        Check.sentence("its op (5; NONE of a LEAF), a (6; NONE), b or the number (7; NONE)", NodeBoundsTest::madeOf);
        Check.sentence("node: BAD", NodeBoundsTest::wrongNodeQuestions);
        Check.sentence("0 / 0 when it is WILD", NodeBoundsTest::wildAnswers);
        Check.sentence("value: BAD: - 2^40", NodeBoundsTest::wrongValueQuestions);
        Check.end();
    }

    private static void fifty() {
        PlainLearner x = new PlainLearner();
        Full.nodes(x, 48);
        Check.due("the 49th", x.leaf(1, 64, 0, 0), 48);
        Check.due("the 50th", x.act(10, 48, 0), 49);
        Check.due("a leaf more", x.leaf(0, 0, 0, 0), -3);
        for (int op = 10; op <= 15; op++) {
            Check.due("an act more", x.act(op, 0, 0), -3);
        }
        Check.due("count(0)", x.count(0), 50);
        Check.due("node(49, 5)", x.node(49, 5), 10);
        PlainLearner y = new PlainLearner();
        Full.nodes(y, 49);
        Check.due("a leaf as the 50th", y.leaf(0, 0, 0, 0), 49);
        Check.due("an act more", y.act(0, 49, 49), -3);
    }

    private static void inOrder() {
        PlainLearner x = new PlainLearner();
        Check.due("leaf", x.leaf(0, 0, 0, 0), 0);
        Check.due("leaf(4, ..)", x.leaf(4, 1, 1, 1), -1);
        Check.due("leaf(2, 5, 13, 0)", x.leaf(2, 5, 13, 0), -3);
        Check.due("act(16, 0, 0)", x.act(16, 0, 0), -1);
        Check.due("act", x.act(10, 0, 0), 1);
        Check.due("leaf", x.leaf(0, 0, 0, 0), 2);
    }

    private static void upToThreeSides() {
        PlainLearner x = new PlainLearner();
        for (int n : new int[] {MIN, -1, 4, 5, MAX}) {
            Check.due("leaf(" + n + ", 1, 1, 1)", x.leaf(n, 1, 1, 1), -1);
        }
        for (int n = 0; n <= 3; n++) {
            Check.due("leaf(" + n + ", 1, 1, 1)", x.leaf(n, 1, 1, 1), n);
            Check.due("node(" + n + ", 0)", x.node(n, 0), n);
        }
    }

    private static void lengthOfSides() {
        PlainLearner x = new PlainLearner();
        int made = 0;
        for (int n = 1; n <= 3; n++) {
            for (int at = 0; at < n; at++) {
                int[] s = {1, 1, 1};
                for (int wrong : new int[] {MIN, -64, -1, 0, 65, 66, MAX}) {
                    s[at] = wrong;
                    Check.due("leaf(" + n + ", .. " + wrong + " ..)", x.leaf(n, s[0], s[1], s[2]), -1);
                }
                for (int right : new int[] {1, 64}) {
                    s[at] = right;
                    Check.due("leaf(" + n + ", .. " + right + " ..)", x.leaf(n, s[0], s[1], s[2]), made);
                    Check.due("node(" + made + ", " + (at + 1) + ")", x.node(made, at + 1), right);
                    Check.due("node(" + made + ", 4)", x.node(made, 4), right);
                    made++;
                }
            }
        }
    }

    private static void noSides() {
        PlainLearner x = new PlainLearner();
        x.leaf(0, 0, 0, 0);
        Check.sides(x, 0);
        Check.due("node(0, 4)", x.node(0, 4), 1);
        Check.due("tell(0, 0, 5, 1)", x.tell(0, 0, 5, 1), 0);
        Check.due("tell(0, 1, 5, 1)", x.tell(0, 1, 5, 1), -1);
        Check.value(x, 0, 0, 5, 1);
        Check.due("value(0, 1, 0)", x.value(0, 1, 0), Check.BAD_FRACTION);
    }

    private static void cellsOfLeaves() {
        PlainLearner x = new PlainLearner();
        int[][] taken = {{1, 64, 1, 1}, {2, 8, 8, 1}, {2, 1, 64, 1}, {2, 3, 21, 1}, {3, 4, 4, 4}, {3, 64, 1, 1},
            {3, 7, 3, 3}};
        for (int k = 0; k < taken.length; k++) {
            int[] t = taken[k];
            Check.due("leaf(" + t[0] + ", " + t[1] + ", " + t[2] + ", " + t[3] + ")", x.leaf(t[0], t[1], t[2], t[3]), k);
            Check.due("node(" + k + ", 4)", x.node(k, 4), t[1] * t[2] * t[3]);
        }
        int[][] full = {{2, 5, 13, 1}, {2, 13, 5, 1}, {2, 2, 33, 1}, {2, 64, 2, 1}, {2, 64, 64, 1}, {3, 5, 13, 1},
            {3, 1, 5, 13}, {3, 4, 4, 5}, {3, 2, 33, 1}, {3, 64, 64, 64}, {3, 64, 1, 2}};
        for (int[] t : full) {
            Check.due("leaf(" + t[0] + ", " + t[1] + ", " + t[2] + ", " + t[3] + ")", x.leaf(t[0], t[1], t[2], t[3]), -3);
        }
        Check.due("count(0)", x.count(0), taken.length);
    }

    private static void lastSideFirst() {
        PlainLearner x = new PlainLearner();
        x.leaf(3, 2, 3, 4);
        for (int i = 0; i < 24; i++) {
            x.tell(0, i, i, 1);
        }
        // Place (1, 0, 0) is cell 12, (0, 1, 0) cell 4, (0, 0, 1) cell 1.
        int second = x.act(8, 0, 1);
        Check.value(x, second, 0, 12, 1);
        int row = x.act(8, second, 2);
        Check.value(x, row, 0, 20, 1);
        Check.value(x, row, 3, 23, 1);
        Check.value(x, x.act(8, x.act(8, 0, 0), 1), 0, 4, 1);
    }

    private static void reckonedWhenAsked() {
        PlainLearner x = new PlainLearner();
        x.leaf(0, 0, 0, 0);
        int square = x.act(13, 0, 0);
        int more = x.act(0, square, 0);
        Check.value(x, more, 0, 0, 1);
        x.tell(0, 0, 3, 1);
        Check.value(x, more, 0, 12, 1);
        Check.value(x, square, 0, 9, 1);
        x.tell(0, 0, 1, 0);
        Check.value(x, more, 0, 0, 0);
        x.tell(0, 0, -1, 2);
        Check.value(x, more, 0, -1, 4);
        // A leaf behind the node that is asked, then one ahead of it.
        x.leaf(0, 0, 0, 0);
        int last = x.act(1, more, 3);
        Check.value(x, last, 0, -1, 4);
        x.tell(3, 0, 1, 4);
        Check.value(x, more, 0, -1, 4);
        Check.value(x, last, 0, -1, 2);
        // What a step of training makes of a leaf counts as well.
        x.parameter(0, true);
        x.rate(1, 2);
        x.train(0, 1);
        Check.value(x, square, 0, 1, 1);
        Check.value(x, last, 0, -1, 4);
    }

    private static void onEarlierNodes() {
        PlainLearner x = new PlainLearner();
        x.leaf(2, 1, 1, 0);
        // The number that the act itself would get is no earlier node.
        for (int op = 0; op <= 4; op++) {
            Check.due("act(" + op + ", 0, 1)", x.act(op, 0, 1), -1);
            Check.due("act(" + op + ", 1, 0)", x.act(op, 1, 0), -1);
        }
        for (int op = 5; op <= 15; op++) {
            Check.due("act(" + op + ", 1, 0)", x.act(op, 1, 0), -1);
        }
        for (int op = 0; op <= 4; op++) {
            Check.due("act(" + op + ", 0, 0)", x.act(op, 0, 0), op + 1);
        }
    }

    private static int leafOf(PlainLearner x, int... sides) {
        return x.leaf(sides.length, sides.length > 0 ? sides[0] : 0, sides.length > 1 ? sides[1] : 0,
                sides.length > 2 ? sides[2] : 0);
    }

    /** The sides of an act on leaves of sides a and b, either way round; null: they do not fit. */
    private static void spreads(int[] a, int[] b, int[] want) {
        for (int op = 0; op <= 3; op++) {
            PlainLearner x = new PlainLearner();
            leafOf(x, a);
            leafOf(x, b);
            Check.due("act(" + op + ", 0, 1)", x.act(op, 0, 1), want == null ? -1 : 2);
            Check.due("act(" + op + ", 1, 0)", x.act(op, 1, 0), want == null ? -1 : 3);
            if (want != null) {
                Check.sides(x, 2, want);
                Check.sides(x, 3, want);
            }
        }
    }

    private static int[] of(int... sides) {
        return sides;
    }

    private static void sameSides() {
        spreads(of(), of(), of());
        spreads(of(64), of(64), of(64));
        spreads(of(2, 3, 4), of(2, 3, 4), of(2, 3, 4));
        spreads(of(2), of(3), null);
        spreads(of(63), of(64), null);
        spreads(of(3, 2), of(2, 3), null);
        spreads(of(2, 2, 2), of(2, 2, 3), null);
        spreads(of(2, 2, 2), of(2, 3, 2), null);
        spreads(of(2, 2, 2), of(3, 2, 2), null);
    }

    private static void sidesOfOne() {
        spreads(of(1), of(64), of(64));
        spreads(of(1, 3), of(2, 1), of(2, 3));
        spreads(of(1, 1, 4), of(2, 3, 1), of(2, 3, 4));
        spreads(of(1, 3, 1), of(2, 1, 4), of(2, 3, 4));
        spreads(of(1, 3), of(2, 2), null);
        PlainLearner x = new PlainLearner();
        leafOf(x, 2, 1);
        Check.tell(x, 0, 10, 20);
        leafOf(x, 1, 3);
        Check.tell(x, 1, 1, 2, 3);
        x.act(1, 0, 1);
        long[] want = {9, 8, 7, 19, 18, 17};
        for (int i = 0; i < 6; i++) {
            Check.value(x, 2, i, want[i], 1);
        }
    }

    private static void missingSides() {
        spreads(of(), of(5), of(5));
        spreads(of(), of(2, 3, 4), of(2, 3, 4));
        spreads(of(4), of(2, 3, 4), of(2, 3, 4));
        spreads(of(3, 4), of(2, 3, 4), of(2, 3, 4));
        // They are set against each other from the last one on, not from the first.
        spreads(of(2), of(2, 3), null);
        spreads(of(2, 3), of(2, 3, 4), null);
        PlainLearner x = new PlainLearner();
        leafOf(x, 2, 2);
        Check.tell(x, 0, 1, 2, 3, 4);
        int row = Check.row(x, 10, 20);
        x.act(0, 0, row);
        long[] want = {11, 22, 13, 24};
        for (int i = 0; i < 4; i++) {
            Check.value(x, 2, i, want[i], 1);
        }
    }

    private static void greaterOnes() {
        spreads(of(1), of(), of(1));
        spreads(of(1, 1, 1), of(), of(1, 1, 1));
        spreads(of(1, 1), of(7), of(1, 7));
        spreads(of(1, 1, 1), of(7), of(1, 1, 7));
        spreads(of(8, 1), of(8), of(8, 8));
    }

    private static void matrices() {
        PlainLearner x = new PlainLearner();
        int[][] sides = {{}, {2}, {2, 2}, {2, 3}, {3, 2}, {2, 2, 2}, {1, 2, 2}, {1, 1}, {2, 1}, {1, 2}};
        for (int[] s : sides) {
            leafOf(x, s);
        }
        int made = sides.length;
        for (int a = 0; a < sides.length; a++) {
            for (int b = 0; b < sides.length; b++) {
                boolean fit = sides[a].length == 2 && sides[b].length == 2 && sides[a][1] == sides[b][0];
                int due = !fit ? -1 : made < 50 ? made : -3;
                Check.due("act(4, " + a + ", " + b + ")", x.act(4, a, b), due);
                if (due > 0) {
                    Check.due("node(" + made + ", 1)", x.node(made, 1), sides[a][0]);
                    Check.due("node(" + made + ", 2)", x.node(made, 2), sides[b][1]);
                    made++;
                }
            }
        }
    }

    private static void alongSides() {
        for (int op = 5; op <= 7; op++) {
            for (int sides = 0; sides <= 3; sides++) {
                PlainLearner x = new PlainLearner();
                x.leaf(sides, 2, 3, 4);
                for (int n : new int[] {MIN, -1, sides, sides + 1, MAX}) {
                    Check.due("act(" + op + ", 0, " + n + ") of " + sides + " SIDES", x.act(op, 0, n), -1);
                }
                for (int n = 0; n < sides; n++) {
                    Check.due("act(" + op + ", 0, " + n + ")", x.act(op, 0, n), n + 1);
                    int[] left = new int[sides - 1];
                    for (int k = 0; k < left.length; k++) {
                        left[k] = k < n ? k + 2 : k + 3;
                    }
                    Check.sides(x, n + 1, left);
                }
            }
        }
    }

    private static void meanOfOne() {
        PlainLearner x = new PlainLearner();
        int one = Check.row(x, MAX);
        Check.value(x, x.act(6, one, 0), 0, MAX, 1);
        int three = Check.row(x, 1, 0, 0);
        Check.value(x, x.act(6, three, 0), 0, 1, 3);
        x.leaf(1, 64, 0, 0);
        x.tell(4, 63, 1, 1);
        Check.value(x, x.act(6, 4, 0), 0, 1, 64);
    }

    private static void greatest() {
        PlainLearner x = new PlainLearner();
        int row = Check.row(x, 4, 9, 9, 9);
        int found = x.act(7, row, 0);
        Check.value(x, found, 0, 9, 1);
        long[] want = {0, 1, 0, 0};
        for (int i = 0; i < 4; i++) {
            Check.slope(x, found, row, i, want[i], 1);
        }
        // All below 0, and neighbours in size.
        int low = Check.row(x, -MAX, -MAX, -MAX + 1);
        Check.value(x, x.act(7, low, 0), 0, -MAX + 1, 1);
        x.leaf(1, 2, 0, 0);
        x.tell(4, 0, MAX - 2, MAX - 1);
        x.tell(4, 1, MAX - 1, MAX);
        Check.value(x, x.act(7, 4, 0), 0, MAX - 1, MAX);
        int one = Check.row(x, -5);
        Check.value(x, x.act(7, one, 0), 0, -5, 1);
    }

    private static void pick() {
        PlainLearner x = new PlainLearner();
        leafOf(x, 3, 2);
        Check.tell(x, 0, 1, 2, 3, 4, 5, 6);
        for (int n : new int[] {MIN, -1, 3, 4, MAX}) {
            Check.due("act(8, 0, " + n + ")", x.act(8, 0, n), -1);
        }
        Check.due("act(8, 0, 0)", x.act(8, 0, 0), 1);
        Check.due("act(8, 0, 2)", x.act(8, 0, 2), 2);
        Check.sides(x, 2, 2);
        Check.value(x, 1, 0, 1, 1);
        Check.value(x, 2, 1, 6, 1);
        Check.due("act(8, 2, 1)", x.act(8, 2, 1), 3);
        Check.sides(x, 3);
        Check.value(x, 3, 0, 6, 1);
        Check.due("act(8, 3, 0): no SIDES", x.act(8, 3, 0), -1);
        leafOf(x, 64);
        Check.due("act(8, 4, 63)", x.act(8, 4, 63), 5);
        Check.due("act(8, 4, 64)", x.act(8, 4, 64), -1);
    }

    private static void turned() {
        PlainLearner x = new PlainLearner();
        leafOf(x);
        leafOf(x, 2);
        leafOf(x, 2, 3);
        leafOf(x, 2, 3, 4);
        Check.due("act(9, 0, 0): no SIDES", x.act(9, 0, 0), -1);
        Check.due("act(9, 1, 0): one side", x.act(9, 1, 0), -1);
        for (int n : new int[] {MIN, -1, 1, 2, MAX}) {
            Check.due("act(9, 2, " + n + ")", x.act(9, 2, n), -1);
        }
        Check.due("act(9, 2, 0)", x.act(9, 2, 0), 4);
        Check.sides(x, 4, 3, 2);
        Check.due("act(9, 3, 0)", x.act(9, 3, 0), 5);
        Check.sides(x, 5, 2, 4, 3);
        Check.tell(x, 2, 1, 2, 3, 4, 5, 6);
        long[] want = {1, 4, 2, 5, 3, 6};
        for (int i = 0; i < 6; i++) {
            Check.value(x, 4, i, want[i], 1);
        }
        // Cell (1, 0, 2) is turned to (1, 2, 0).
        x.tell(3, 12 + 2, 7, 1);
        Check.value(x, 5, 12 + 6, 7, 1);
    }

    private static void aboveNone() {
        PlainLearner x = new PlainLearner();
        int row = Check.row(x, -MAX, -1, 0, 1, MAX);
        x.act(11, row, 0);
        long[] want = {0, 0, 0, 1, MAX};
        for (int i = 0; i < 5; i++) {
            Check.value(x, 1, i, want[i], 1);
        }
        x.tell(row, 0, -1, MAX);
        x.tell(row, 4, 1, MAX);
        Check.value(x, 1, 0, 0, 1);
        Check.value(x, 1, 4, 1, MAX);
    }

    private static void withoutSign() {
        PlainLearner x = new PlainLearner();
        int row = Check.row(x, -MAX, -1, 0, 1, MAX);
        x.act(12, row, 0);
        long[] want = {MAX, 1, 0, 1, MAX};
        for (int i = 0; i < 5; i++) {
            Check.value(x, 1, i, want[i], 1);
        }
        x.tell(row, 0, -1, MAX);
        Check.value(x, 1, 0, 1, MAX);
    }

    private static void flat() {
        PlainLearner x = new PlainLearner();
        leafOf(x);
        leafOf(x, 4, 4, 4);
        Check.due("act(14, 0, 0)", x.act(14, 0, 0), 2);
        Check.sides(x, 2, 1);
        Check.due("act(14, 1, 0)", x.act(14, 1, 0), 3);
        Check.sides(x, 3, 64);
        x.tell(1, 63, 5, 1);
        x.tell(1, 17, 6, 1);
        Check.value(x, 3, 63, 5, 1);
        Check.value(x, 3, 17, 6, 1);
    }

    private static void sumOfAll() {
        PlainLearner x = new PlainLearner();
        leafOf(x);
        x.tell(0, 0, 2, 3);
        Check.due("act(15, 0, 0)", x.act(15, 0, 0), 1);
        Check.sides(x, 1);
        Check.value(x, 1, 0, 2, 3);
        leafOf(x, 4, 4, 4);
        for (int i = 0; i < 64; i++) {
            x.tell(2, i, 1, 1);
        }
        Check.due("act(15, 2, 0)", x.act(15, 2, 0), 3);
        Check.sides(x, 3);
        Check.value(x, 3, 0, 64, 1);
    }

    private static void numberNone() {
        PlainLearner x = new PlainLearner();
        leafOf(x, 2, 2);
        for (int op = 10; op <= 15; op++) {
            for (int n : new int[] {MIN, -1, 1, MAX}) {
                Check.due("act(" + op + ", 0, " + n + ")", x.act(op, 0, n), -1);
            }
            Check.due("act(" + op + ", 0, 0)", x.act(op, 0, 0), op - 9);
        }
    }

    private static void sidesBeyond() {
        PlainLearner x = new PlainLearner();
        Check.due("leaf(0, MIN, 0, 65)", x.leaf(0, MIN, 0, 65), 0);
        Check.due("leaf(1, 5, -1, MAX)", x.leaf(1, 5, -1, MAX), 1);
        Check.due("leaf(2, 5, 6, 0)", x.leaf(2, 5, 6, 0), 2);
        Check.due("leaf(2, 8, 8, 64)", x.leaf(2, 8, 8, 64), 3);
        Check.sides(x, 0);
        Check.sides(x, 1, 5);
        Check.sides(x, 2, 5, 6);
        Check.sides(x, 3, 8, 8);
    }

    private static void leafOfNoughts() {
        PlainLearner x = new PlainLearner();
        leafOf(x, 4, 4, 4);
        for (int i = 0; i < 64; i++) {
            Check.value(x, 0, i, 0, 1);
        }
    }

    private static void toldWild() {
        PlainLearner x = new PlainLearner();
        leafOf(x, 2);
        Check.due("tell(0, 1, 1, 2)", x.tell(0, 1, 1, 2), 0);
        Check.due("tell(0, 1, 0, 0)", x.tell(0, 1, 0, 0), 1);
        Check.due("tell(0, 1, 1, 0)", x.tell(0, 1, 1, 0), 1);
        Check.due("tell(0, 1, MIN, 1)", x.tell(0, 1, MIN, 1), 1);
        Check.due("tell(0, 1, 1, MIN)", x.tell(0, 1, 1, MIN), 1);
        Check.value(x, 0, 1, 0, 0);
        Check.value(x, 0, 0, 0, 1);
        Check.due("tell(0, 1, 0, -1)", x.tell(0, 1, 0, -1), 0);
        Check.value(x, 0, 1, 0, 1);
    }

    private static void tellNoLeaf() {
        PlainLearner x = new PlainLearner();
        leafOf(x, 2);
        x.act(10, 0, 0);
        leafOf(x, 2);
        for (int leaf : new int[] {MIN, -1, 1, 3, 4, 50, MAX}) {
            Check.due("tell(" + leaf + ", 0, 1, 1)", x.tell(leaf, 0, 1, 1), -1);
            Check.due("tell(" + leaf + ", 0, 1, 0)", x.tell(leaf, 0, 1, 0), -1);
        }
        Check.due("tell(2, 0, 1, 1)", x.tell(2, 0, 1, 1), 0);
    }

    private static void tellNoCell() {
        PlainLearner x = new PlainLearner();
        leafOf(x, 2, 3);
        for (int i : new int[] {MIN, -1, 6, 7, 64, MAX}) {
            Check.due("tell(0, " + i + ", 1, 1)", x.tell(0, i, 1, 1), -1);
            Check.due("tell(0, " + i + ", 1, 0)", x.tell(0, i, 1, 0), -1);
        }
        Check.due("tell(0, 0, 1, 1)", x.tell(0, 0, 1, 1), 0);
        Check.due("tell(0, 5, 1, 1)", x.tell(0, 5, 1, 1), 0);
        leafOf(x, 4, 4, 4);
        Check.due("tell(1, 63, 1, 1)", x.tell(1, 63, 1, 1), 0);
        Check.due("tell(1, 64, 1, 1)", x.tell(1, 64, 1, 1), -1);
    }

    private static void wrongOps() {
        PlainLearner x = new PlainLearner();
        leafOf(x, 1, 1);
        for (int op : new int[] {MIN, -1, 16, 17, MAX}) {
            Check.due("act(" + op + ", 0, 0)", x.act(op, 0, 0), -1);
        }
        for (int op = 0; op <= 15; op++) {
            Check.due("act(" + op + ", 0, 0)", x.act(op, 0, 0), op + 1);
        }
    }

    private static void wrongNodes() {
        PlainLearner x = new PlainLearner();
        leafOf(x, 1, 1);
        leafOf(x, 1, 1);
        for (int wrong : new int[] {MIN, -1, 2, 50, MAX}) {
            for (int op = 0; op <= 15; op++) {
                Check.due("act(" + op + ", " + wrong + ", 0)", x.act(op, wrong, 0), -1);
            }
            for (int op = 0; op <= 4; op++) {
                Check.due("act(" + op + ", 0, " + wrong + ")", x.act(op, 0, wrong), -1);
                Check.due("act(" + op + ", " + wrong + ", " + wrong + ")", x.act(op, wrong, wrong), -1);
            }
        }
        Check.due("act(0, 1, 1)", x.act(0, 1, 1), 2);
    }

    private static void notFitting() {
        PlainLearner x = new PlainLearner();
        leafOf(x, 3);
        leafOf(x, 2);
        leafOf(x, 3, 2);
        for (int op = 0; op <= 4; op++) {
            Check.due("act(" + op + ", 0, 1)", x.act(op, 0, 1), -1);
            Check.due("act(" + op + ", 2, 0)", x.act(op, 2, 0), -1);
        }
        // Nodes that do not fit are BAD, however many CELLS there would be.
        leafOf(x, 64, 1);
        leafOf(x, 2, 32);
        leafOf(x, 63, 1);
        Check.due("act(0, 3, 4)", x.act(0, 3, 4), -1);
        Check.due("act(0, 3, 5)", x.act(0, 3, 5), -1);
        Check.due("count(0)", x.count(0), 6);
    }

    private static void cellsOfActs() {
        PlainLearner x = new PlainLearner();
        leafOf(x, 8, 1);
        leafOf(x, 8);
        leafOf(x, 9);
        leafOf(x, 13, 1);
        leafOf(x, 5);
        leafOf(x, 1, 8);
        leafOf(x, 1, 9);
        leafOf(x, 64, 1);
        leafOf(x, 1, 64);
        leafOf(x, 2, 1, 1);
        for (int op = 0; op <= 3; op++) {
            Check.due("8 * 8", x.act(op, 0, 1), 10 + op);
            Check.due("8 * 9", x.act(op, 0, 2), -3);
            Check.due("13 * 5", x.act(op, 3, 4), -3);
            Check.due("5 * 13", x.act(op, 4, 3), -3);
            Check.due("64 * 64", x.act(op, 7, 8), -3);
            Check.due("2 * 64", x.act(op, 9, 7), -3);
        }
        Check.due("8 * 8 of a @ b", x.act(4, 0, 5), 14);
        Check.due("8 * 9 of a @ b", x.act(4, 0, 6), -3);
        Check.due("64 * 64 of a @ b", x.act(4, 7, 8), -3);
        Check.due("1 * 1 of a @ b", x.act(4, 8, 7), 15);
        Check.sides(x, 10, 8, 8);
        Check.sides(x, 14, 8, 8);
        Check.sides(x, 15, 1, 1);
        Check.due("count(0)", x.count(0), 16);
    }

    /** No act has more SIDES than the nodes that it is made of, but for 14: they are never above 3. */
    private static void neverAboveThreeSides() {
        PlainLearner x = new PlainLearner();
        leafOf(x, 2, 1, 2);
        leafOf(x, 1, 2, 1);
        for (int op = 0; op <= 3; op++) {
            Check.due("act(" + op + ", 0, 1)", x.act(op, 0, 1), op + 2);
            Check.sides(x, op + 2, 2, 2, 2);
        }
        for (int op = 10; op <= 13; op++) {
            Check.due("act(" + op + ", 0, 0)", x.act(op, 0, 0), op - 4);
            Check.sides(x, op - 4, 2, 1, 2);
        }
    }

    private static void sidesToldOf() {
        PlainLearner x = new PlainLearner();
        for (int sides = 0; sides <= 3; sides++) {
            x.leaf(sides, 4, 3, 2);
            Check.due("node(" + sides + ", 0)", x.node(sides, 0), sides);
            for (int what = 1; what <= 3; what++) {
                Check.due("node(" + sides + ", " + what + ")", x.node(sides, what), what <= sides ? 5 - what : 0);
            }
        }
        int[] cells = {1, 4, 12, 24};
        for (int node = 0; node <= 3; node++) {
            Check.due("node(" + node + ", 4)", x.node(node, 4), cells[node]);
        }
    }

    private static void madeOf() {
        PlainLearner x = new PlainLearner();
        leafOf(x, 2, 2);
        leafOf(x, 2, 2);
        for (int what = 5; what <= 7; what++) {
            Check.due("node(0, " + what + ")", x.node(0, what), -2);
            Check.due("node(1, " + what + ")", x.node(1, what), -2);
        }
        for (int op = 0; op <= 15; op++) {
            int b = op <= 8 ? op <= 4 ? 0 : 1 : 0;
            Check.due("act(" + op + ", 1, " + b + ")", x.act(op, 1, b), op + 2);
            Check.due("node(" + (op + 2) + ", 5)", x.node(op + 2, 5), op);
            Check.due("node(" + (op + 2) + ", 6)", x.node(op + 2, 6), 1);
            Check.due("node(" + (op + 2) + ", 7)", x.node(op + 2, 7), b);
        }
    }

    private static void wrongNodeQuestions() {
        PlainLearner x = new PlainLearner();
        leafOf(x, 2);
        for (int what = 0; what <= 7; what++) {
            for (int node : new int[] {MIN, -1, 1, 50, MAX}) {
                Check.due("node(" + node + ", " + what + ")", x.node(node, what), -1);
            }
        }
        for (int what : new int[] {MIN, -1, 8, 9, MAX}) {
            Check.due("node(0, " + what + ")", x.node(0, what), -1);
        }
    }

    private static void wildAnswers() {
        PlainLearner x = new PlainLearner();
        leafOf(x, 2);
        x.tell(0, 1, 7, 0);
        x.act(10, 0, 0);
        Check.value(x, 0, 0, 0, 1);
        Check.value(x, 0, 1, 0, 0);
        Check.value(x, 1, 0, 0, 1);
        Check.value(x, 1, 1, 0, 0);
    }

    private static void wrongValueQuestions() {
        PlainLearner x = new PlainLearner();
        leafOf(x, 2);
        x.tell(0, 1, 1, 0);
        for (int wrong : new int[] {MIN, -1, 1, 50, MAX}) {
            Check.due("value(" + wrong + ", 0, 0)", x.value(wrong, 0, 0), Check.BAD_FRACTION);
        }
        for (int wrong : new int[] {MIN, -1, 2, 64, MAX}) {
            Check.due("value(0, " + wrong + ", 0)", x.value(0, wrong, 0), Check.BAD_FRACTION);
            Check.due("value(0, 0, " + wrong + ")", x.value(0, 0, wrong), Check.BAD_FRACTION);
            Check.due("value(0, 1, " + wrong + ") of a WILD one", x.value(0, 1, wrong), Check.BAD_FRACTION);
        }
        Check.value(x, 0, 0, 0, 1);
    }
}
