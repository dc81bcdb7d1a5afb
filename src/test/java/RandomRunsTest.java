import java.util.Random;

/** Runs of calls drawn from fixed seeds, each answer set against the oracle's. */
public final class RandomRunsTest {
    private static final int[] EDGES = {Integer.MIN_VALUE, Integer.MIN_VALUE + 1, -65536, -1001, -1000, -2, -1, 0, 1, 2,
        3, 4, 8, 15, 16, 20, 21, 40, 49, 50, 63, 64, 65, 255, 256, 4096, 8192, 65535, 65536, 65537, Integer.MAX_VALUE - 1,
        Integer.MAX_VALUE};

    private final Random random;
    private final PlainLearner x = new PlainLearner();
    private final Oracle y = new Oracle();
    /** How wild the fractions are that leaves are told: 0 small whole numbers, 1 small, 2 any. */
    private final int manner;
    /** One of so many arguments is drawn without care. */
    private final int care;
    private final int alphabet;
    private final int mostCells;

    private RandomRunsTest(long seed) {
        random = new Random(seed);
        manner = random.nextInt(3);
        care = random.nextInt(4) == 0 ? 4 : 30;
        alphabet = 1 + random.nextInt(random.nextBoolean() ? 4 : 26);
        mostCells = random.nextBoolean() ? 3 : 6;
    }

    public static void main(String[] args) {
        int runs = args.length > 0 ? Integer.parseInt(args[0]) : 1200;
        long first = args.length > 1 ? Long.parseLong(args[1]) : 1;
        for (int k = 0; k < runs; k++) {
            RandomRunsTest run = new RandomRunsTest(first + k);
            int part = k % 6;
            for (int call = 0; call < 512; call++) {
                run.step(part == 5 ? run.random.nextInt(5) : part);
            }
        }
        Check.end();
    }

    private void step(int part) {
        switch (part) {
            case 0: tensorStep(); break;
            case 1: tableStep(); break;
            case 2: gameStep(); break;
            case 3: scoreStep(); break;
            default: tokenStep(); break;
        }
        if (random.nextInt(8) == 0) {
            int what = among(7);
            Check.due("count(" + what + ")", x.count(what), y.count(what));
        }
    }

    /** Mostly 0 .. n - 1, at times what is not. */
    private int among(int n) {
        if (random.nextInt(care) == 0) {
            return random.nextBoolean() ? EDGES[random.nextInt(EDGES.length)] : n;
        }
        return n <= 0 ? 0 : random.nextInt(n);
    }

    private int node() {
        int n = y.count(0);
        // Late nodes more often, so that chains grow long.
        return random.nextInt(3) > 0 && n > 4 ? n - 4 + among(4) : among(n);
    }

    private int number() {
        switch (manner) {
            case 0: return random.nextInt(7) - 3;
            case 1: return random.nextInt(41) - 20;
            default: return random.nextBoolean() ? EDGES[random.nextInt(EDGES.length)] : random.nextInt() >> random.nextInt(32);
        }
    }

    private int bottom() {
        if (random.nextInt(care) == 0) {
            return 0;
        }
        return manner == 0 ? 1 : manner == 1 ? 1 + random.nextInt(6) : number();
    }

    private int side() {
        return random.nextInt(care) == 0 ? among(2) : random.nextInt(2);
    }

    private void tensorStep() {
        int draw = random.nextInt(100);
        if (draw < 6 || y.count(0) == 0) {
            leafStep();
        } else if (draw < 36) {
            int leaf = node(), i = among(y.node(leaf, 4)), p = number(), q = bottom();
            Check.due("tell(" + leaf + ", " + i + ", " + p + ", " + q + ")", x.tell(leaf, i, p, q), y.tell(leaf, i, p, q));
        } else if (draw < 52) {
            actStep();
        } else if (draw < 58) {
            int node = node(), what = among(8);
            Check.due("node(" + node + ", " + what + ")", x.node(node, what), y.node(node, what));
        } else if (draw < 73) {
            int node = node(), i = among(y.node(node, 4)), side = side();
            Check.due("value(" + node + ", " + i + ", " + side + ")", x.value(node, i, side), y.value(node, i, side));
        } else if (draw < 87) {
            slopeStep();
        } else if (draw < 90) {
            int node = node(), by = among(y.count(0));
            Check.due("ways(" + node + ", " + by + ")", x.ways(node, by), y.ways(node, by));
        } else if (draw < 93) {
            int leaf = among(y.count(0));
            boolean on = random.nextInt(4) > 0;
            Check.due("parameter(" + leaf + ", " + on + ")", x.parameter(leaf, on), y.parameter(leaf, on));
        } else if (draw < 95) {
            int p = random.nextInt(3) - 1, q = random.nextInt(care) == 0 ? among(1) : 1 + random.nextInt(20);
            p = random.nextInt(care) == 0 ? number() : p;
            Check.due("rate(" + p + ", " + q + ")", x.rate(p, q), y.rate(p, q));
        } else {
            int node = node(), steps = random.nextInt(5) == 0 ? among(21) : among(3);
            Check.due("train(" + node + ", " + steps + ")", x.train(node, steps), y.train(node, steps));
        }
    }

    private void leafStep() {
        int n = among(4);
        int[] s = new int[3];
        for (int k = 0; k < 3; k++) {
            s[k] = 1 + among(mostCells);
        }
        Check.due("leaf(" + n + ", ..)", x.leaf(n, s[0], s[1], s[2]), y.leaf(n, s[0], s[1], s[2]));
    }

    private void actStep() {
        int op = among(16);
        int a = random.nextBoolean() ? node() : among(y.count(0));
        int b = op <= 4 ? random.nextInt(4) == 0 ? a : among(y.count(0)) : op <= 7 ? among(y.node(a, 0))
            : op == 8 ? among(y.node(a, 1)) : random.nextInt(care) == 0 ? among(2) : 0;
        Check.due("act(" + op + ", " + a + ", " + b + ")", x.act(op, a, b), y.act(op, a, b));
    }

    private void slopeStep() {
        int node = node(), by = among(Math.min(y.count(0), node == Integer.MAX_VALUE ? node : node + 1));
        int i = among(y.node(by, 4)), side = side();
        long got = x.slope(node, by, i, side);
        String call = "slope(" + node + ", " + by + ", " + i + ", " + side + ")";
        Check.due(call, got, y.slope(node, by, i, side));
        if (got != Check.BAD_FRACTION && x.slope(node, by, i, 1) != 0) {
            Ratio upwards = y.slopeUpwards(node, by, i);
            if (upwards != null) {
                Check.due(call + " upwards", got, Ratio.side(upwards, side));
            }
        }
    }

    private void tableStep() {
        int draw = random.nextInt(100);
        int reach = manner == 0 ? 2 : manner == 1 ? 6 : 1000;
        if (draw < 45) {
            int[] r = new int[4];
            for (int k = 0; k < 4; k++) {
                r[k] = random.nextInt(8 * care) == 0 ? among(1) : random.nextInt(2 * reach + 1) - reach;
            }
            int cls = among(4);
            Check.due("row(..)", x.row(r[0], r[1], r[2], r[3], cls), y.row(r[0], r[1], r[2], r[3], cls));
        } else if (draw < 65) {
            int column = among(4), v = random.nextInt(2 * reach + 3) - reach - 1, side = side();
            Check.due("cost(" + column + ", " + v + ", " + side + ")", x.cost(column, v, side), y.cost(column, v, side));
        } else if (draw < 82) {
            int column = among(4);
            Check.due("cut(" + column + ")", x.cut(column), y.cut(column));
        } else if (draw < 98) {
            Check.due("best()", x.best(), y.best());
        } else {
            Check.due("clear()", x.clear(), y.clear());
        }
    }

    private void gameStep() {
        int draw = random.nextInt(200);
        if (draw < 2 || y.count(2) == 0) {
            int n = among(random.nextInt(3) == 0 ? 9 : 5);
            Check.due("game(" + n + ")", x.game(n), y.game(n));
        } else if (draw < 150) {
            int set = among(1 << y.count(2)), v = random.nextInt(care) == 0 ? among(10001) : random.nextInt(20001) - 10000;
            Check.due("worth(" + set + ", " + v + ")", x.worth(set, v), y.worth(set, v));
        } else if (y.count(2) < 7 || draw < 152) {
            int player = among(y.count(2)), side = side();
            Check.due("share(" + player + ", " + side + ")", x.share(player, side), y.share(player, side));
        }
    }

    private void scoreStep() {
        int draw = random.nextInt(100);
        if (draw < 50) {
            int mark = manner == 2 ? number() : random.nextInt(manner == 0 ? 4 : 30);
            boolean truth = random.nextBoolean();
            Check.due("pair(" + mark + ", " + truth + ")", x.pair(mark, truth), y.pair(mark, truth));
        } else if (draw < 97) {
            int kind = among(4), side = side();
            Check.due("score(" + kind + ", " + side + ")", x.score(kind, side), y.score(kind, side));
        } else {
            Check.due("forget()", x.forget(), y.forget());
        }
    }

    private void tokenStep() {
        int draw = random.nextInt(100);
        if (draw < 35) {
            int n = 1 + among(8);
            long bytes = random.nextLong();
            for (int k = 0; k < 8 && k < n; k++) {
                long letter = random.nextInt(20 * care) == 0 ? random.nextInt(256) : 'a' + random.nextInt(alphabet);
                bytes = bytes & ~(255L << 8 * k) | letter << 8 * k;
            }
            Check.due("feed(" + bytes + ", " + n + ")", x.feed(bytes, n), y.feed(bytes, n));
        } else if (draw < 60) {
            Check.due("merge()", x.merge(), y.merge());
        } else if (draw < 70) {
            int i = among(y.count(5)), what = among(3);
            Check.due("merged(" + i + ", " + what + ")", x.merged(i, what), y.merged(i, what));
        } else if (draw < 74) {
            Check.due("encode()", x.encode(), y.encode());
        } else if (draw < 98) {
            int i = among(y.count(4));
            Check.due("token(" + i + ")", x.token(i), y.token(i));
        } else {
            Check.due("empty()", x.empty(), y.empty());
        }
    }
}
