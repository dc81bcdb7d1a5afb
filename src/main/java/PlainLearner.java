import java.util.Arrays;

/** Learning on paper: tensors of fractions with slopes, tables, games, scores and tokens. */
public final class PlainLearner {
    public static final int BAD = -1, NONE = -2, FULL = -3, TURN = -4;

    private static final long BAD_FRACTION = -(1L << 40);

    private final Tape tape;
    private final Table table;
    private final Players players;
    private final Scores scores;
    private final Tokens tokens;

    public PlainLearner() {
        tape = new Tape();
        table = new Table();
        players = new Players();
        scores = new Scores();
        tokens = new Tokens();
    }

    // ---- tensors

    public int leaf(int n, int s0, int s1, int s2) {
        return tape.addLeaf(Shape.told(n, s0, s1, s2));
    }

    public int tell(int leaf, int i, int p, int q) {
        return tape.tellCell(leaf, i, Fractions.of(p, q));
    }

    public int act(int op, int a, int b) {
        return tape.addAct(op, a, b);
    }

    public int node(int node, int what) {
        Node asked = tape.find(node);
        return asked == null ? BAD : asked.describe(what);
    }

    public long value(int node, int i, int side) {
        Node asked = tape.find(node);
        if (asked == null || !asked.hasCell(i) || !isSide(side)) {
            return BAD_FRACTION;
        }
        tape.reckonUpTo(node);
        return Fractions.sideOf(asked.value[i], side);
    }

    public long slope(int node, int by, int i, int side) {
        Node asked = tape.find(node);
        Node under = tape.find(by);
        if (asked == null || under == null || by > node || !under.hasCell(i) || !isSide(side)) {
            return BAD_FRACTION;
        }
        tape.reckonUpTo(node);
        tape.sumSlopes(node, by);
        return Fractions.sideOf(under.sum[i], side);
    }

    public long ways(int node, int by) {
        return tape.countWays(node, by);
    }

    public int parameter(int leaf, boolean on) {
        return tape.markParameter(leaf, on);
    }

    public int rate(int p, int q) {
        if (q <= 0) {
            return BAD;
        }
        tape.rate = Fractions.of(p, q);
        return 0;
    }

    public int train(int node, int steps) {
        return tape.trainSteps(node, steps);
    }

    // ---- tables

    public int row(int a, int b, int c, int d, int cls) {
        return table.addRow(a, b, c, d, cls);
    }

    public int cut(int column) {
        return Table.isColumn(column) ? table.bestCutOf(column) : BAD;
    }

    public long cost(int column, int v, int side) {
        if (!Table.isColumn(column) || !isSide(side)) {
            return BAD_FRACTION;
        }
        return Fractions.sideOf(table.costOf(column, v), side);
    }

    public int best() {
        return table.bestColumn();
    }

    public int clear() {
        return table.dropAll();
    }

    // ---- games

    public int game(int n) {
        return players.begin(n);
    }

    public int worth(int set, int v) {
        return players.setWorth(set, v);
    }

    public long share(int player, int side) {
        if (player < 0 || player >= players.size || !isSide(side)) {
            return BAD_FRACTION;
        }
        return Fractions.sideOf(players.shareOf(player), side);
    }

    // ---- scores

    public int pair(int mark, boolean truth) {
        return scores.addPair(mark, truth);
    }

    public long score(int kind, int side) {
        if (kind < 0 || kind > 3 || !isSide(side)) {
            return BAD_FRACTION;
        }
        return Fractions.sideOf(scores.scoreOf(kind), side);
    }

    public int forget() {
        return scores.dropAll();
    }

    // ---- tokens

    public int feed(long bytes, int n) {
        return tokens.addLetters(bytes, n);
    }

    public int empty() {
        return tokens.dropText();
    }

    public int merge() {
        return tokens.learnMerge();
    }

    public int merged(int i, int what) {
        return tokens.describeMerge(i, what);
    }

    public int encode() {
        return tokens.doAllMerges();
    }

    public int token(int i) {
        return tokens.tokenAt(i);
    }

    public int count(int what) {
        switch (what) {
            case 0:
                return tape.size;
            case 1:
                return table.size;
            case 2:
                return players.size;
            case 3:
                return scores.size;
            case 4:
                return tokens.size;
            case 5:
                return tokens.merges;
            case 6:
                return tape.countParameters();
            default:
                return BAD;
        }
    }

    private static boolean isSide(int side) {
        return side == 0 || side == 1;
    }

    /**
     * A fraction is one long, so that reckoning makes no objects: P in the upper half, Q in the
     * lower. Q 0 stands for WILD, whose P is kept 0, so equal fractions are equal longs.
     */
    private static final class Fractions {
        static final long WILD = 0L;
        static final long ZERO = 1L;
        static final long ONE = (1L << 32) | 1L;
        static final long MINUS_ONE = (-1L << 32) | 1L;

        private static final long MOST = 2147483647L;
        private static final long GRID = 4096L;
        /** Euclid on two longs takes at most some 91 turns. */
        private static final int GCD_TURNS = 100;

        private Fractions() {
        }

        static long topOf(long x) {
            return x >> 32;
        }

        static long bottomOf(long x) {
            return x & MOST;
        }

        static long sideOf(long x, int side) {
            return side == 0 ? topOf(x) : bottomOf(x);
        }

        static long whole(int n) {
            return fit(n, 1L);
        }

        static long of(long p, long q) {
            if (q == 0L) {
                return WILD;
            }
            long g = gcd(p, q);
            return q < 0L ? fit(-(p / g), -(q / g)) : fit(p / g, q / g);
        }

        static long add(long x, long y) {
            if (x == WILD || y == WILD) {
                return WILD;
            }
            // Every sum begins at 0: such steps need no gcd.
            if (x == ZERO || y == ZERO) {
                return x == ZERO ? y : x;
            }
            // Reducing by the denominators' divisor first keeps all below 2^63 and the gcds short.
            long g = gcd(bottomOf(x), bottomOf(y));
            long left = bottomOf(x) / g;
            long top = topOf(x) * (bottomOf(y) / g) + topOf(y) * left;
            long h = gcd(top, g);
            return fit(top / h, left * (bottomOf(y) / h));
        }

        static long minus(long x) {
            return fit(-topOf(x), bottomOf(x));
        }

        static long times(long x, long y) {
            if (x == WILD || y == WILD) {
                return WILD;
            }
            // Most steps' own slopes are 1.
            if (x == ONE || y == ONE) {
                return x == ONE ? y : x;
            }
            // Both are in least terms, so only what stands crosswise can be reduced.
            long g = gcd(topOf(x), bottomOf(y));
            long h = gcd(topOf(y), bottomOf(x));
            return fit((topOf(x) / g) * (topOf(y) / h), (bottomOf(x) / h) * (bottomOf(y) / g));
        }

        /** 1 / x, which has room whenever x has. */
        static long inverse(long x) {
            long p = topOf(x);
            long q = bottomOf(x);
            if (p == 0L) {
                return WILD;
            }
            return p < 0L ? fit(-q, -p) : fit(q, p);
        }

        /** Of two that are not WILD. */
        static int compare(long x, long y) {
            return Long.compare(topOf(x) * bottomOf(y), topOf(y) * bottomOf(x));
        }

        /** 1, 0 or - 1; 0 of WILD. */
        static int sign(long x) {
            return topOf(x) > 0L ? 1 : topOf(x) < 0L ? -1 : 0;
        }

        static long rounded(long x) {
            long q = bottomOf(x);
            if (q == 0L) {
                return WILD;
            }
            return of(Math.floorDiv(2L * GRID * topOf(x) + q, 2L * q), GRID);
        }

        private static long fit(long p, long q) {
            if (p > MOST || p < -MOST || q > MOST || q < 1L) {
                return WILD;
            }
            return (p << 32) | q;
        }

        /** The greatest common divisor without signs, never below 1, so that it may divide. */
        private static long gcd(long a, long b) {
            long x = a < 0L ? -a : a;
            long y = b < 0L ? -b : b;
            for (int turn = 0; turn < GCD_TURNS && y != 0L; turn++) {
                long rest = x % y;
                x = y;
                y = rest;
            }
            return x < 1L ? 1L : x;
        }
    }

    /** The acts by their numbers in the document. */
    private static final class Ops {
        static final int ADD = 0;
        static final int SUBTRACT = 1;
        static final int MULTIPLY = 2;
        static final int DIVIDE = 3;
        static final int MATRIX = 4;
        static final int SUM = 5;
        static final int MEAN = 6;
        static final int GREATEST = 7;
        static final int PICK = 8;
        static final int TURN_SIDES = 9;
        static final int NEGATE = 10;
        static final int POSITIVE = 11;
        static final int SIZE = 12;
        static final int SQUARE = 13;
        static final int FLAT = 14;
        static final int SUM_ALL = 15;

        private Ops() {
        }

        static boolean isOp(int op) {
            return op >= ADD && op <= SUM_ALL;
        }

        static boolean isOfTwo(int op) {
            return op <= MATRIX;
        }
    }

    /**
     * The sides of a node, set against the last one: of fewer than three those in front are 1 here,
     * which changes no cell's place and lets all nodes be walked in the same way.
     */
    private static final class Shape {
        private static final int LONGEST = 64;

        final int sides;
        final int outer;
        final int middle;
        final int inner;
        final int cells;

        private Shape(int sides, int outer, int middle, int inner) {
            this.sides = sides;
            this.outer = outer;
            this.middle = middle;
            this.inner = inner;
            this.cells = outer * middle * inner;
        }

        /** Null where a number is not as it may be. */
        static Shape told(int n, int s0, int s1, int s2) {
            if (n < 0 || n > 3) {
                return null;
            }
            if ((n > 0 && !isLength(s0)) || (n > 1 && !isLength(s1)) || (n > 2 && !isLength(s2))) {
                return null;
            }
            switch (n) {
                case 0:
                    return new Shape(0, 1, 1, 1);
                case 1:
                    return new Shape(1, 1, 1, s0);
                case 2:
                    return new Shape(2, 1, s0, s1);
                default:
                    return new Shape(3, s0, s1, s2);
            }
        }

        /** Of an act on nodes of shapes a and b (b null: the number n); null where they do not fit. */
        static Shape ofAct(int op, int n, Shape a, Shape b) {
            if (Ops.isOfTwo(op)) {
                return b == null ? null : ofTwo(op, a, b);
            }
            switch (op) {
                case Ops.SUM:
                case Ops.MEAN:
                case Ops.GREATEST:
                    return n < 0 || n >= a.sides ? null : a.without(a.placeOf(n));
                case Ops.PICK:
                    return n < 0 || n >= a.firstLength() ? null : a.without(a.placeOf(0));
                case Ops.TURN_SIDES:
                    return n != 0 || a.sides < 2 ? null : new Shape(a.sides, a.outer, a.inner, a.middle);
                case Ops.FLAT:
                    return n != 0 ? null : new Shape(1, 1, 1, a.cells);
                case Ops.SUM_ALL:
                    return n != 0 ? null : new Shape(0, 1, 1, 1);
                default:
                    return n != 0 ? null : a;
            }
        }

        private static Shape ofTwo(int op, Shape a, Shape b) {
            if (op == Ops.MATRIX) {
                boolean fit = a.sides == 2 && b.sides == 2 && a.inner == b.middle;
                return fit ? new Shape(2, 1, a.middle, b.inner) : null;
            }
            if (!spread(a.outer, b.outer) || !spread(a.middle, b.middle) || !spread(a.inner, b.inner)) {
                return null;
            }
            return new Shape(Math.max(a.sides, b.sides), Math.max(a.outer, b.outer),
                    Math.max(a.middle, b.middle), Math.max(a.inner, b.inner));
        }

        private static boolean isLength(int s) {
            return s >= 1 && s <= LONGEST;
        }

        private static boolean spread(int s, int t) {
            return s == t || s == 1 || t == 1;
        }

        /** Which of outer (0), middle (1) and inner (2) is side n. */
        int placeOf(int n) {
            return 3 - sides + n;
        }

        int lengthAt(int place) {
            return place == 0 ? outer : place == 1 ? middle : inner;
        }

        /** How far apart cells stand that are neighbours along a side. */
        int stepAt(int place) {
            return place == 0 ? middle * inner : place == 1 ? inner : 1;
        }

        /** 0 where there is no side. */
        int firstLength() {
            return sides == 0 ? 0 : lengthAt(placeOf(0));
        }

        private Shape without(int place) {
            return new Shape(sides - 1, 1, place == 0 ? middle : outer, place == 2 ? middle : inner);
        }
    }

    /**
     * Where the cells stand that an act is made of: a start, a step along each side of the act, and
     * one from term to term, so that no place needs a division.
     */
    private static final class View {
        final int start;
        final int outer;
        final int middle;
        final int inner;
        final int term;

        private View(int start, int outer, int middle, int inner, int term) {
            this.start = start;
            this.outer = outer;
            this.middle = middle;
            this.inner = inner;
            this.term = term;
        }

        static View ofFirst(int op, int n, Shape a) {
            switch (op) {
                case Ops.MATRIX:
                    return new View(0, 0, a.inner, 0, 1);
                case Ops.SUM:
                case Ops.MEAN:
                case Ops.GREATEST:
                    return along(a, a.placeOf(n), 0);
                case Ops.PICK:
                    return along(a, a.placeOf(0), n);
                case Ops.TURN_SIDES:
                    return new View(0, a.stepAt(0), 1, a.inner, 0);
                case Ops.FLAT:
                    return new View(0, 0, 0, 1, 0);
                case Ops.SUM_ALL:
                    return new View(0, 0, 0, 0, 1);
                default:
                    return spread(a);
            }
        }

        static View ofSecond(int op, Shape b) {
            return op == Ops.MATRIX ? new View(0, 0, 0, 1, b.inner) : spread(b);
        }

        /** The side at the place is gone from the act; those ahead of it have moved up. */
        private static View along(Shape a, int place, int n) {
            int step = a.stepAt(place);
            return new View(n * step, 0, a.stepAt(place == 0 ? 1 : 0), a.stepAt(place == 2 ? 1 : 2), step);
        }

        private static View spread(Shape a) {
            return new View(0, a.outer == 1 ? 0 : a.stepAt(0), a.middle == 1 ? 0 : a.stepAt(1),
                    a.inner == 1 ? 0 : 1, 0);
        }

        int at(int x, int y, int z) {
            return start + x * outer + y * middle + z * inner;
        }
    }

    /** A leaf, or an act on one node (second null) or two. */
    private static final class Node {
        final Shape shape;
        final int op;
        final int a;
        final int b;
        final Node first;
        final Node second;
        final View firstView;
        final View secondView;
        final int terms;
        final long[] value;
        final long[] sum;
        boolean isParameter;
        long paths;

        /** A leaf; its shape has been looked at. */
        Node(Shape shape) {
            this.shape = shape;
            op = NONE;
            a = NONE;
            b = NONE;
            first = null;
            second = null;
            firstView = null;
            secondView = null;
            terms = 0;
            value = new long[shape.cells];
            sum = new long[shape.cells];
            Arrays.fill(value, Fractions.ZERO);
        }

        /** An act; its shape has been looked at, first is there, second is null for a number. */
        Node(Shape shape, int op, int a, int b, Node first, Node second) {
            this.shape = shape;
            this.op = op;
            this.a = a;
            this.b = b;
            this.first = first;
            this.second = second;
            firstView = View.ofFirst(op, b, first.shape);
            secondView = second == null ? null : View.ofSecond(op, second.shape);
            terms = termsOf(op, b, first.shape);
            value = new long[shape.cells];
            sum = new long[shape.cells];
        }

        private static int termsOf(int op, int n, Shape a) {
            switch (op) {
                case Ops.MATRIX:
                    return a.inner;
                case Ops.SUM:
                case Ops.MEAN:
                case Ops.GREATEST:
                    return a.lengthAt(a.placeOf(n));
                case Ops.SUM_ALL:
                    return a.cells;
                default:
                    return 1;
            }
        }

        boolean isLeaf() {
            return first == null;
        }

        boolean hasCell(int i) {
            return i >= 0 && i < shape.cells;
        }

        int describe(int what) {
            switch (what) {
                case 0:
                    return shape.sides;
                case 1:
                case 2:
                case 3:
                    return what > shape.sides ? 0 : shape.lengthAt(shape.placeOf(what - 1));
                case 4:
                    return shape.cells;
                case 5:
                    return op;
                case 6:
                    return a;
                case 7:
                    return b;
                default:
                    return BAD;
            }
        }

        /** Goes through the cells in order: reckons their values, or (down) gives their sums on. */
        void walk(boolean down) {
            if (first == null || firstView == null) {
                return;
            }
            int r = 0;
            for (int x = 0; x < shape.outer; x++) {
                for (int y = 0; y < shape.middle; y++) {
                    for (int z = 0; z < shape.inner; z++) {
                        int i = firstView.at(x, y, z);
                        int j = secondView == null ? 0 : secondView.at(x, y, z);
                        if (down) {
                            giveCell(r, i, j);
                        } else {
                            value[r] = reckonCell(i, j);
                        }
                        r++;
                    }
                }
            }
        }

        private long reckonCell(int i, int j) {
            long x = first.value[i];
            long y = second == null ? Fractions.WILD : second.value[j];
            switch (op) {
                case Ops.ADD:
                    return Fractions.add(x, y);
                case Ops.SUBTRACT:
                    return Fractions.add(x, Fractions.minus(y));
                case Ops.MULTIPLY:
                    return Fractions.times(x, y);
                case Ops.DIVIDE:
                    return Fractions.times(x, Fractions.inverse(y));
                case Ops.MATRIX:
                    return sumOfProducts(i, j);
                case Ops.SUM:
                case Ops.SUM_ALL:
                    return sumOfRow(i);
                case Ops.MEAN:
                    return Fractions.times(sumOfRow(i), Fractions.inverse(Fractions.whole(terms)));
                case Ops.GREATEST:
                    int greatest = greatestOfRow(i);
                    return greatest < 0 ? Fractions.WILD : first.value[greatest];
                case Ops.NEGATE:
                    return Fractions.minus(x);
                case Ops.POSITIVE:
                    return Fractions.sign(x) < 0 ? Fractions.ZERO : x;
                case Ops.SIZE:
                    return Fractions.sign(x) < 0 ? Fractions.minus(x) : x;
                case Ops.SQUARE:
                    return Fractions.times(x, x);
                default:
                    return x;
            }
        }

        private long sumOfRow(int i) {
            long total = Fractions.ZERO;
            for (int k = 0; k < terms; k++) {
                total = Fractions.add(total, first.value[i + k * firstView.term]);
            }
            return total;
        }

        private long sumOfProducts(int i, int j) {
            long total = Fractions.ZERO;
            if (second == null || secondView == null) {
                return total;
            }
            for (int k = 0; k < terms; k++) {
                long x = first.value[i + k * firstView.term];
                long y = second.value[j + k * secondView.term];
                total = Fractions.add(total, Fractions.times(x, y));
            }
            return total;
        }

        /** The place of the first of the greatest cells of a row; BAD where one is WILD. */
        private int greatestOfRow(int i) {
            int best = i;
            for (int k = 0; k < terms; k++) {
                int at = i + k * firstView.term;
                if (first.value[at] == Fractions.WILD) {
                    return BAD;
                }
                if (Fractions.compare(first.value[at], first.value[best]) > 0) {
                    best = at;
                }
            }
            return best;
        }

        private void giveCell(int r, int i, int j) {
            long given = sum[r];
            if (given == Fractions.ZERO) {
                return;
            }
            int greatest = op == Ops.GREATEST ? greatestOfRow(i) : BAD;
            for (int k = 0; k < terms; k++) {
                int at = i + k * firstView.term;
                int bt = secondView == null ? 0 : j + k * secondView.term;
                first.sum[at] = Fractions.add(first.sum[at], Fractions.times(given, ownOfFirst(at, bt, greatest)));
                if (second != null) {
                    second.sum[bt] = Fractions.add(second.sum[bt], Fractions.times(given, ownOfSecond(at, bt)));
                }
            }
        }

        /** The step's own towards cell at of the first node. */
        private long ownOfFirst(int at, int bt, int greatest) {
            long x = first.value[at];
            long y = second == null ? Fractions.WILD : second.value[bt];
            switch (op) {
                case Ops.MULTIPLY:
                case Ops.MATRIX:
                    return y;
                case Ops.DIVIDE:
                    return Fractions.inverse(y);
                case Ops.MEAN:
                    return Fractions.inverse(Fractions.whole(terms));
                case Ops.GREATEST:
                    return greatest < 0 ? Fractions.WILD : at == greatest ? Fractions.ONE : Fractions.ZERO;
                case Ops.NEGATE:
                    return Fractions.MINUS_ONE;
                case Ops.POSITIVE:
                    return x == Fractions.WILD ? x : Fractions.whole(Math.max(0, Fractions.sign(x)));
                case Ops.SIZE:
                    return x == Fractions.WILD ? x : Fractions.whole(Fractions.sign(x));
                case Ops.SQUARE:
                    return Fractions.add(x, x);
                default:
                    return Fractions.ONE;
            }
        }

        /** The step's own towards cell bt of the second node. */
        private long ownOfSecond(int at, int bt) {
            long x = first.value[at];
            long y = second == null ? Fractions.WILD : second.value[bt];
            switch (op) {
                case Ops.ADD:
                    return Fractions.ONE;
                case Ops.SUBTRACT:
                    return Fractions.MINUS_ONE;
                case Ops.DIVIDE:
                    long part = Fractions.inverse(y);
                    return Fractions.minus(Fractions.times(Fractions.times(x, part), part));
                default:
                    return x;
            }
        }
    }

    /** The nodes in order, and what is asked of several of them at once. */
    private static final class Tape {
        private static final int MOST_NODES = 50;
        private static final int MOST_CELLS = 64;
        private static final int MOST_STEPS = 20;
        private static final long MOST_WAYS = 1000000000000000000L;

        final Node[] nodes = new Node[MOST_NODES];
        int size;
        long rate = Fractions.of(1L, 10L);
        /** Nodes below this number hold values that are still those of the leaves. */
        private int fresh;

        Node find(int number) {
            return number < 0 || number >= size ? null : nodes[number];
        }

        private Node findLeaf(int number) {
            Node found = find(number);
            return found == null || !found.isLeaf() ? null : found;
        }

        int addLeaf(Shape shape) {
            if (shape == null) {
                return BAD;
            }
            return hasRoom(shape) ? append(new Node(shape)) : FULL;
        }

        int addAct(int op, int a, int b) {
            Node first = find(a);
            if (!Ops.isOp(op) || first == null) {
                return BAD;
            }
            Node second = Ops.isOfTwo(op) ? find(b) : null;
            Shape shape = Shape.ofAct(op, b, first.shape, second == null ? null : second.shape);
            if (shape == null) {
                return BAD;
            }
            return hasRoom(shape) ? append(new Node(shape, op, a, b, first, second)) : FULL;
        }

        private boolean hasRoom(Shape shape) {
            return size < MOST_NODES && shape.cells <= MOST_CELLS;
        }

        private int append(Node added) {
            nodes[size] = added;
            size++;
            return size - 1;
        }

        int tellCell(int number, int i, long told) {
            Node leaf = findLeaf(number);
            if (leaf == null || !leaf.hasCell(i)) {
                return BAD;
            }
            leaf.value[i] = told;
            fresh = Math.min(fresh, number + 1);
            return told == Fractions.WILD ? 1 : 0;
        }

        int markParameter(int number, boolean on) {
            Node leaf = findLeaf(number);
            if (leaf == null) {
                return BAD;
            }
            int before = leaf.isParameter ? 1 : 0;
            leaf.isParameter = on;
            return before;
        }

        int countParameters() {
            int found = 0;
            for (int k = 0; k < size; k++) {
                if (nodes[k].isParameter) {
                    found++;
                }
            }
            return found;
        }

        void reckonUpTo(int number) {
            for (int k = fresh; k <= number && k < size; k++) {
                nodes[k].walk(false);
            }
            fresh = Math.max(fresh, number + 1);
        }

        /**
         * Leaves in each node from by up to number its slope's sums, and 0 in those not reached. The
         * values have been reckoned.
         */
        void sumSlopes(int number, int by) {
            for (int k = 0; k < size; k++) {
                Arrays.fill(nodes[k].sum, k == number ? Fractions.ONE : Fractions.ZERO);
            }
            for (int k = number; k > by; k--) {
                nodes[k].walk(true);
            }
        }

        long countWays(int number, int by) {
            Node from = find(number);
            Node to = find(by);
            if (from == null || to == null || by > number) {
                return BAD;
            }
            for (int k = 0; k <= number; k++) {
                nodes[k].paths = 0L;
            }
            from.paths = 1L;
            for (int k = number; k > by; k--) {
                passPaths(nodes[k], nodes[k].first);
                passPaths(nodes[k], nodes[k].second);
            }
            return to.paths;
        }

        private static void passPaths(Node from, Node to) {
            if (to != null) {
                to.paths = Math.min(MOST_WAYS, to.paths + from.paths);
            }
        }

        int trainSteps(int number, int steps) {
            Node asked = find(number);
            if (asked == null || steps < 0 || steps > MOST_STEPS) {
                return BAD;
            }
            if (asked.shape.sides != 0) {
                return TURN;
            }
            for (int step = 0; step < steps; step++) {
                reckonUpTo(number);
                sumSlopes(number, 0);
                moveParameters();
            }
            return countWildCells();
        }

        private void moveParameters() {
            for (int k = 0; k < size; k++) {
                Node moved = nodes[k];
                for (int i = 0; moved.isParameter && i < moved.shape.cells; i++) {
                    long change = Fractions.minus(Fractions.times(rate, moved.sum[i]));
                    moved.value[i] = Fractions.rounded(Fractions.add(moved.value[i], change));
                }
            }
            fresh = 0;
        }

        private int countWildCells() {
            int wild = 0;
            for (int k = 0; k < size; k++) {
                Node looked = nodes[k];
                for (int i = 0; looked.isParameter && i < looked.shape.cells; i++) {
                    if (looked.value[i] == Fractions.WILD) {
                        wild++;
                    }
                }
            }
            return wild;
        }
    }

    /** Rows of four numbers with a class each. */
    private static final class Table {
        private static final int MOST_ROWS = 40;
        private static final int COLUMNS = 4;
        private static final int CLASSES = 4;
        private static final int LIMIT = 1000;
        private static final int NO_CUT = 10000;

        private final int[] numbers = new int[MOST_ROWS * COLUMNS];
        private final int[] classes = new int[MOST_ROWS];
        private final int[] low = new int[CLASSES];
        private final int[] high = new int[CLASSES];
        int size;

        static boolean isColumn(int column) {
            return column >= 0 && column < COLUMNS;
        }

        private static boolean isNumber(int v) {
            return v >= -LIMIT && v <= LIMIT;
        }

        int addRow(int a, int b, int c, int d, int cls) {
            if (!isNumber(a) || !isNumber(b) || !isNumber(c) || !isNumber(d) || cls < 0 || cls >= CLASSES) {
                return BAD;
            }
            if (size >= MOST_ROWS) {
                return FULL;
            }
            int at = size * COLUMNS;
            numbers[at] = a;
            numbers[at + 1] = b;
            numbers[at + 2] = c;
            numbers[at + 3] = d;
            classes[size] = cls;
            size++;
            return size;
        }

        int dropAll() {
            int before = size;
            size = 0;
            return before;
        }

        /** WILD where one of the parts is none. */
        long costOf(int column, int v) {
            Arrays.fill(low, 0);
            Arrays.fill(high, 0);
            int below = 0;
            for (int r = 0; r < size; r++) {
                if (numbers[r * COLUMNS + column] <= v) {
                    low[classes[r]]++;
                    below++;
                } else {
                    high[classes[r]]++;
                }
            }
            int above = size - below;
            if (below == 0 || above == 0) {
                return Fractions.WILD;
            }
            long whole = (long) size * below * above;
            return Fractions.of(whole - squares(low) * above - squares(high) * below, whole);
        }

        private static long squares(int[] counts) {
            long total = 0L;
            for (int n : counts) {
                total += (long) n * n;
            }
            return total;
        }

        int bestCutOf(int column) {
            int best = NO_CUT;
            long least = Fractions.WILD;
            for (int r = 0; r < size; r++) {
                int v = numbers[r * COLUMNS + column];
                long found = costOf(column, v);
                if (isLess(found, least) || (found != Fractions.WILD && found == least && v < best)) {
                    best = v;
                    least = found;
                }
            }
            return best;
        }

        int bestColumn() {
            int best = NONE;
            long least = Fractions.WILD;
            for (int column = 0; column < COLUMNS; column++) {
                long found = costOf(column, bestCutOf(column));
                if (isLess(found, least)) {
                    best = column;
                    least = found;
                }
            }
            return best;
        }

        /** Any cost is less than none (WILD). */
        private static boolean isLess(long found, long least) {
            return found != Fractions.WILD
                    && (least == Fractions.WILD || Fractions.compare(found, least) < 0);
        }
    }

    /** A game: the worth of each set of players. */
    private static final class Players {
        private static final int MOST_PLAYERS = 8;
        private static final int LIMIT = 10000;
        private static final int[] FACTORIALS = {1, 1, 2, 6, 24, 120, 720, 5040, 40320};

        private final int[] worths = new int[1 << MOST_PLAYERS];
        int size;

        int begin(int n) {
            if (n < 0 || n > MOST_PLAYERS) {
                return BAD;
            }
            size = n;
            Arrays.fill(worths, 0);
            return 0;
        }

        int setWorth(int set, int v) {
            if (set < 1 || set >= (1 << size) || v < -LIMIT || v > LIMIT) {
                return BAD;
            }
            int before = worths[set];
            worths[set] = v;
            return before;
        }

        /**
         * Orders in which just the same players came before grow by the same, so they are taken
         * together; the player is one of the game's.
         */
        long shareOf(int player) {
            int own = 1 << player;
            long total = 0L;
            for (int set = 0; set < (1 << size); set++) {
                if ((set & own) == 0) {
                    int ahead = Integer.bitCount(set);
                    long orders = (long) FACTORIALS[ahead] * FACTORIALS[size - 1 - ahead];
                    total += orders * (worths[set | own] - worths[set]);
                }
            }
            return Fractions.of(total, FACTORIALS[size]);
        }
    }

    /** Pairs of a mark and a truth. */
    private static final class Scores {
        private static final int MOST_PAIRS = 40;

        private final int[] marks = new int[MOST_PAIRS];
        private final boolean[] truths = new boolean[MOST_PAIRS];
        int size;

        int addPair(int mark, boolean truth) {
            if (size >= MOST_PAIRS) {
                return FULL;
            }
            marks[size] = mark;
            truths[size] = truth;
            size++;
            return size;
        }

        int dropAll() {
            int before = size;
            size = 0;
            return before;
        }

        long scoreOf(int kind) {
            switch (kind) {
                case 0:
                    return shareInOrder();
                case 1:
                    return greatestShareRight();
                case 2:
                    return greatestBalance();
                default:
                    return meanOfPlaces();
            }
        }

        private int countYes() {
            int yes = 0;
            for (int i = 0; i < size; i++) {
                if (truths[i]) {
                    yes++;
                }
            }
            return yes;
        }

        private long shareInOrder() {
            int halves = 0;
            for (int i = 0; i < size; i++) {
                for (int j = 0; j < size; j++) {
                    if (truths[i] && !truths[j]) {
                        halves += marks[i] > marks[j] ? 2 : marks[i] == marks[j] ? 1 : 0;
                    }
                }
            }
            int yes = countYes();
            return Fractions.of(halves, 2L * yes * (size - yes));
        }

        private int countRight(int t) {
            int right = 0;
            for (int i = 0; i < size; i++) {
                if ((marks[i] >= t) == truths[i]) {
                    right++;
                }
            }
            return right;
        }

        private int countYesToldYes(int t) {
            int told = 0;
            for (int i = 0; i < size; i++) {
                if (truths[i] && marks[i] >= t) {
                    told++;
                }
            }
            return told;
        }

        private long greatestShareRight() {
            // A t above all marks tells every pair no; all others tell as one of the marks does.
            int best = size - countYes();
            for (int i = 0; i < size; i++) {
                best = Math.max(best, countRight(marks[i]));
            }
            return Fractions.of(best, size);
        }

        private long greatestBalance() {
            long best = Fractions.ZERO;
            for (int i = 0; i < size; i++) {
                int twice = 2 * countYesToldYes(marks[i]);
                int wrong = size - countRight(marks[i]);
                long found = twice == 0 ? Fractions.ZERO : Fractions.of(twice, twice + wrong);
                if (Fractions.compare(found, best) > 0) {
                    best = found;
                }
            }
            return best;
        }

        private long meanOfPlaces() {
            long total = Fractions.ZERO;
            for (int i = 0; i < size; i++) {
                if (truths[i]) {
                    total = Fractions.add(total, Fractions.of(1L, countNotBelow(marks[i])));
                }
            }
            return Fractions.times(total, Fractions.inverse(Fractions.whole(countYes())));
        }

        private int countNotBelow(int mark) {
            int found = 0;
            for (int i = 0; i < size; i++) {
                if (marks[i] >= mark) {
                    found++;
                }
            }
            return found;
        }
    }

    /** The text as tokens, and the merges learned so far. */
    private static final class Tokens {
        private static final int MOST_TOKENS = 200;
        private static final int MOST_MERGES = 60;
        private static final int LETTERS = 26;
        private static final int KINDS = LETTERS + MOST_MERGES;

        private final int[] text = new int[MOST_TOKENS];
        private final int[] firsts = new int[MOST_MERGES];
        private final int[] seconds = new int[MOST_MERGES];
        private final int[] lengths = new int[MOST_MERGES];
        /** How often each pair stands, at first * KINDS + second. */
        private final int[] stands = new int[KINDS * KINDS];
        int size;
        int merges;

        int addLetters(long bytes, int n) {
            if (n < 1 || n > 8) {
                return BAD;
            }
            for (int i = 0; i < n; i++) {
                int letter = letterAt(bytes, i);
                if (letter < 0 || letter >= LETTERS) {
                    return BAD;
                }
            }
            if (size + n > MOST_TOKENS) {
                return FULL;
            }
            for (int i = 0; i < n; i++) {
                text[size + i] = letterAt(bytes, i);
            }
            size += n;
            return size;
        }

        private static int letterAt(long bytes, int i) {
            return (int) ((bytes >>> (8 * i)) & 255L) - 'a';
        }

        int dropText() {
            int before = size;
            size = 0;
            return before;
        }

        int tokenAt(int i) {
            return i < 0 || i >= size ? NONE : text[i];
        }

        int describeMerge(int i, int what) {
            if (i < 0 || i >= merges) {
                return BAD;
            }
            switch (what) {
                case 0:
                    return firsts[i];
                case 1:
                    return seconds[i];
                case 2:
                    return lengths[i];
                default:
                    return BAD;
            }
        }

        int learnMerge() {
            countPairs();
            int pair = mostFrequentPair();
            if (pair < 0) {
                return NONE;
            }
            if (merges >= MOST_MERGES) {
                return FULL;
            }
            firsts[merges] = pair / KINDS;
            seconds[merges] = pair % KINDS;
            lengths[merges] = lettersOf(firsts[merges]) + lettersOf(seconds[merges]);
            doMerge(merges);
            merges++;
            return LETTERS + merges - 1;
        }

        private int lettersOf(int token) {
            return token < LETTERS ? 1 : lengths[token - LETTERS];
        }

        private int pairAt(int i) {
            return text[i] * KINDS + text[i + 1];
        }

        private void countPairs() {
            for (int i = 0; i + 1 < size; i++) {
                stands[pairAt(i)] = 0;
            }
            boolean countedBefore = false;
            for (int i = 0; i + 1 < size; i++) {
                // Only a pair of two like tokens can overlap the one before.
                boolean overlaps = countedBefore && pairAt(i) == pairAt(i - 1);
                if (!overlaps) {
                    stands[pairAt(i)]++;
                }
                countedBefore = !overlaps;
            }
        }

        /** BAD where none stands twice. A lesser pair has the lesser place in the table of pairs. */
        private int mostFrequentPair() {
            int best = BAD;
            int most = 1;
            for (int i = 0; i + 1 < size; i++) {
                int pair = pairAt(i);
                if (stands[pair] > most || (stands[pair] == most && pair < best)) {
                    best = pair;
                    most = stands[pair];
                }
            }
            return best;
        }

        private void doMerge(int merge) {
            int kept = 0;
            int i = 0;
            while (i < size) {
                boolean found = i + 1 < size && text[i] == firsts[merge] && text[i + 1] == seconds[merge];
                text[kept] = found ? LETTERS + merge : text[i];
                kept++;
                i += found ? 2 : 1;
            }
            size = kept;
        }

        int doAllMerges() {
            for (int merge = 0; merge < merges; merge++) {
                doMerge(merge);
            }
            return size;
        }
    }
}
