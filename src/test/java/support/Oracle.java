import java.util.ArrayList;
import java.util.Arrays;
import java.util.List;

/** The document done slowly and in another way, to set the program's answers against. */
final class Oracle {
    static final int BAD = -1, NONE = -2, FULL = -3, TURN = -4;

    /** A cell that another is made of, by the number of its node. */
    private record Part(int node, int cell) {
    }

    private static final class Tensor {
        int[] sides;
        int op = NONE, a = NONE, b = NONE;
        Ratio[] cells;
        boolean parameter;

        int size() {
            int n = 1;
            for (int s : sides) {
                n *= s;
            }
            return n;
        }
    }

    private final List<Tensor> nodes = new ArrayList<>();
    private Ratio rate = Ratio.of(1, 10);
    private final List<int[]> rows = new ArrayList<>();
    private int players = 0;
    private int[] worths = new int[256];
    private final List<long[]> pairs = new ArrayList<>();
    private List<Integer> text = new ArrayList<>();
    private final List<int[]> merges = new ArrayList<>();

    // ---- tensors

    private boolean has(int node) {
        return node >= 0 && node < nodes.size();
    }

    private boolean hasLeaf(int node) {
        return has(node) && nodes.get(node).op == NONE;
    }

    int leaf(int n, int s0, int s1, int s2) {
        if (n < 0 || n > 3) {
            return BAD;
        }
        int[] sides = Arrays.copyOf(new int[] {s0, s1, s2}, n);
        for (int s : sides) {
            if (s < 1 || s > 64) {
                return BAD;
            }
        }
        Tensor t = new Tensor();
        t.sides = sides;
        if (t.size() > 64 || nodes.size() == 50) {
            return FULL;
        }
        t.cells = new Ratio[t.size()];
        Arrays.fill(t.cells, Ratio.ZERO);
        nodes.add(t);
        return nodes.size() - 1;
    }

    int tell(int leaf, int i, int p, int q) {
        if (!hasLeaf(leaf) || i < 0 || i >= nodes.get(leaf).size()) {
            return BAD;
        }
        nodes.get(leaf).cells[i] = Ratio.of(p, q);
        return nodes.get(leaf).cells[i] == null ? 1 : 0;
    }

    private static int[] spread(int[] a, int[] b) {
        int n = Math.max(a.length, b.length);
        int[] c = new int[n];
        for (int k = 1; k <= n; k++) {
            int s = k <= a.length ? a[a.length - k] : 1;
            int t = k <= b.length ? b[b.length - k] : 1;
            if (s != t && s != 1 && t != 1) {
                return null;
            }
            c[n - k] = Math.max(s, t);
        }
        return c;
    }

    private static int[] without(int[] sides, int n) {
        int[] c = new int[sides.length - 1];
        for (int k = 0; k < c.length; k++) {
            c[k] = sides[k < n ? k : k + 1];
        }
        return c;
    }

    private int[] sidesOf(int op, int a, int b) {
        int[] s = nodes.get(a).sides;
        if (op <= 4) {
            if (!has(b)) {
                return null;
            }
            int[] t = nodes.get(b).sides;
            if (op < 4) {
                return spread(s, t);
            }
            return s.length == 2 && t.length == 2 && s[1] == t[0] ? new int[] {s[0], t[1]} : null;
        }
        if (op <= 7) {
            return b >= 0 && b < s.length ? without(s, b) : null;
        }
        if (op == 8) {
            return s.length > 0 && b >= 0 && b < s[0] ? without(s, 0) : null;
        }
        if (b != 0) {
            return null;
        }
        int[] c = s.clone();
        if (op == 9) {
            if (s.length < 2) {
                return null;
            }
            c[s.length - 1] = s[s.length - 2];
            c[s.length - 2] = s[s.length - 1];
        }
        return op == 14 ? new int[] {nodes.get(a).size()} : op == 15 ? new int[0] : c;
    }

    int act(int op, int a, int b) {
        if (op < 0 || op > 15 || !has(a)) {
            return BAD;
        }
        Tensor t = new Tensor();
        t.sides = sidesOf(op, a, b);
        if (t.sides == null) {
            return BAD;
        }
        if (t.size() > 64 || t.sides.length > 3 || nodes.size() == 50) {
            return FULL;
        }
        t.op = op;
        t.a = a;
        t.b = b;
        nodes.add(t);
        return nodes.size() - 1;
    }

    int node(int node, int what) {
        if (!has(node) || what < 0 || what > 7) {
            return BAD;
        }
        Tensor t = nodes.get(node);
        int[] answers = {t.sides.length, 0, 0, 0, t.size(), t.op, t.a, t.b};
        System.arraycopy(t.sides, 0, answers, 1, t.sides.length);
        return answers[what];
    }

    /** Where a cell stands along each side. */
    private static int[] spots(int[] sides, int cell) {
        int[] spots = new int[sides.length];
        for (int k = sides.length - 1; k >= 0; k--) {
            spots[k] = cell % sides[k];
            cell /= sides[k];
        }
        return spots;
    }

    private static int cellAt(int[] sides, int[] spots) {
        int cell = 0;
        for (int k = 0; k < sides.length; k++) {
            cell = cell * sides[k] + spots[k];
        }
        return cell;
    }

    private static int spreadCell(int[] sides, int[] spots) {
        int[] own = new int[sides.length];
        for (int k = 1; k <= sides.length; k++) {
            own[sides.length - k] = sides[sides.length - k] == 1 ? 0 : spots[spots.length - k];
        }
        return cellAt(sides, own);
    }

    private static int[] inserted(int[] spots, int n, int k) {
        int[] c = new int[spots.length + 1];
        for (int i = 0; i < c.length; i++) {
            c[i] = i < n ? spots[i] : i == n ? k : spots[i - 1];
        }
        return c;
    }

    /** All that a cell is made of, in the order in which it gives (of two nodes by turns). */
    private List<Part> parts(Tensor t, int cell) {
        List<Part> parts = new ArrayList<>();
        int[] s = nodes.get(t.a).sides;
        int[] spots = spots(t.sides, cell);
        if (t.op < 4) {
            parts.add(new Part(t.a, spreadCell(s, spots)));
            parts.add(new Part(t.b, spreadCell(nodes.get(t.b).sides, spots)));
        } else if (t.op == 4) {
            for (int k = 0; k < s[1]; k++) {
                parts.add(new Part(t.a, cellAt(s, new int[] {spots[0], k})));
                parts.add(new Part(t.b, cellAt(nodes.get(t.b).sides, new int[] {k, spots[1]})));
            }
        } else if (t.op <= 7) {
            for (int k = 0; k < s[t.b]; k++) {
                parts.add(new Part(t.a, cellAt(s, inserted(spots, t.b, k))));
            }
        } else if (t.op == 8) {
            parts.add(new Part(t.a, cellAt(s, inserted(spots, 0, t.b))));
        } else if (t.op == 9) {
            int n = spots.length;
            int last = spots[n - 1];
            spots[n - 1] = spots[n - 2];
            spots[n - 2] = last;
            parts.add(new Part(t.a, cellAt(s, spots)));
        } else if (t.op == 15) {
            for (int k = 0; k < nodes.get(t.a).size(); k++) {
                parts.add(new Part(t.a, k));
            }
        } else {
            parts.add(new Part(t.a, cell));
        }
        return parts;
    }

    private static Ratio[] read(Ratio[][] values, List<Part> parts) {
        Ratio[] read = new Ratio[parts.size()];
        for (int k = 0; k < read.length; k++) {
            read[k] = values[parts.get(k).node][parts.get(k).cell];
        }
        return read;
    }

    private static Ratio sum(Ratio[] v) {
        Ratio sum = v[0];
        for (int k = 1; k < v.length; k++) {
            sum = Ratio.plus(sum, v[k]);
        }
        return sum;
    }

    /** - 1 where one of them is WILD. */
    private static int greatest(Ratio[] v) {
        int best = 0;
        for (int k = 0; k < v.length; k++) {
            if (v[k] == null) {
                return -1;
            }
            best = Ratio.less(v[best], v[k]) ? k : best;
        }
        return best;
    }

    private static Ratio made(int op, Ratio[] v) {
        Ratio x = v[0];
        switch (op) {
            case 0: return Ratio.plus(x, v[1]);
            case 1: return Ratio.minus(x, v[1]);
            case 2: return Ratio.times(x, v[1]);
            case 3: return Ratio.over(x, v[1]);
            case 4:
                Ratio[] products = new Ratio[v.length / 2];
                for (int k = 0; k < products.length; k++) {
                    products[k] = Ratio.times(v[2 * k], v[2 * k + 1]);
                }
                return sum(products);
            case 5: case 15: return sum(v);
            case 6: return Ratio.over(sum(v), Ratio.of(v.length, 1));
            case 7: return greatest(v) < 0 ? null : v[greatest(v)];
            case 10: return Ratio.minus(Ratio.ZERO, x);
            case 11: return x == null ? null : x.p.signum() > 0 ? x : Ratio.ZERO;
            case 12: return x == null ? null : x.p.signum() < 0 ? Ratio.minus(Ratio.ZERO, x) : x;
            case 13: return Ratio.times(x, x);
            default: return x;
        }
    }

    /** The step's own towards each part. */
    private static Ratio[] own(int op, Ratio[] v) {
        Ratio[] own = new Ratio[v.length];
        Arrays.fill(own, Ratio.ONE);
        Ratio minusOne = Ratio.of(-1, 1);
        Ratio x = v[0];
        switch (op) {
            case 1: own[1] = minusOne; break;
            case 2: case 4:
                for (int k = 0; k < v.length; k++) {
                    own[k] = v[k ^ 1];
                }
                break;
            case 3:
                own[0] = Ratio.over(Ratio.ONE, v[1]);
                own[1] = Ratio.over(Ratio.minus(Ratio.ZERO, Ratio.over(x, v[1])), v[1]);
                break;
            case 6: Arrays.fill(own, Ratio.of(1, v.length)); break;
            case 7:
                int best = greatest(v);
                for (int k = 0; k < v.length; k++) {
                    own[k] = best < 0 ? null : k == best ? Ratio.ONE : Ratio.ZERO;
                }
                break;
            case 10: own[0] = minusOne; break;
            case 11: own[0] = x == null ? null : x.p.signum() > 0 ? Ratio.ONE : Ratio.ZERO; break;
            case 12: own[0] = x == null ? null : Ratio.of(x.p.signum(), 1); break;
            case 13: own[0] = Ratio.plus(x, x); break;
            default: break;
        }
        return own;
    }

    private Ratio[][] values(int upTo, boolean bounded) {
        Ratio[][] values = new Ratio[nodes.size()][];
        for (int n = 0; n <= upTo; n++) {
            Tensor t = nodes.get(n);
            values[n] = new Ratio[t.size()];
            for (int i = 0; i < t.size(); i++) {
                if (t.op == NONE) {
                    values[n][i] = bounded ? t.cells[i] : Ratio.unbound(t.cells[i]);
                } else {
                    values[n][i] = made(t.op, read(values, parts(t, i)));
                }
            }
        }
        return values;
    }

    private static boolean isSide(int side) {
        return side == 0 || side == 1;
    }

    long value(int node, int i, int side) {
        if (!has(node) || i < 0 || i >= nodes.get(node).size() || !isSide(side)) {
            return Check.BAD_FRACTION;
        }
        return Ratio.side(values(node, true)[node][i], side);
    }

    private Ratio[][] sums(int node, int by) {
        Ratio[][] values = values(node, true);
        Ratio[][] sums = new Ratio[nodes.size()][];
        for (int n = 0; n < sums.length; n++) {
            sums[n] = new Ratio[nodes.get(n).size()];
            Arrays.fill(sums[n], n == node ? Ratio.ONE : Ratio.ZERO);
        }
        for (int n = node; n > by; n--) {
            Tensor t = nodes.get(n);
            for (int i = 0; t.op != NONE && i < t.size(); i++) {
                if (sums[n][i] != null && sums[n][i].isZero()) {
                    continue;
                }
                List<Part> parts = parts(t, i);
                Ratio[] own = own(t.op, read(values, parts));
                for (int k = 0; k < own.length; k++) {
                    Part part = parts.get(k);
                    Ratio given = Ratio.times(sums[n][i], own[k]);
                    sums[part.node][part.cell] = Ratio.plus(sums[part.node][part.cell], given);
                }
            }
        }
        return sums;
    }

    private boolean slopeIsThere(int node, int by, int i, int side) {
        return has(node) && has(by) && by <= node && i >= 0 && i < nodes.get(by).size() && isSide(side);
    }

    long slope(int node, int by, int i, int side) {
        return slopeIsThere(node, by, i, side) ? Ratio.side(sums(node, by)[by][i], side) : Check.BAD_FRACTION;
    }

    /**
     * The slope reckoned upwards from the cell, without bounds; null where a step on the way is not to
     * be had. What slope() answers, if not WILD, must be just this.
     */
    Ratio slopeUpwards(int node, int by, int cell) {
        Ratio[][] values = values(node, false);
        Ratio[][] rise = new Ratio[nodes.size()][];
        boolean lost = false;
        for (int n = 0; n <= node; n++) {
            Tensor t = nodes.get(n);
            rise[n] = new Ratio[t.size()];
            for (int i = 0; i < t.size(); i++) {
                Ratio sum = Ratio.unbound(n == by && i == cell ? Ratio.ONE : Ratio.ZERO);
                List<Part> parts = n > by && t.op != NONE ? parts(t, i) : List.of();
                Ratio[] own = parts.isEmpty() ? null : own(t.op, read(values, parts));
                for (int k = 0; k < parts.size(); k++) {
                    Ratio below = rise[parts.get(k).node][parts.get(k).cell];
                    if (below == null || !below.isZero()) {
                        sum = Ratio.plus(sum, Ratio.times(own[k], below));
                    }
                }
                rise[n][i] = sum;
            }
        }
        for (Ratio r : rise[node]) {
            lost = lost || r == null;
        }
        return lost ? null : sum(rise[node]);
    }

    private long waysOf(int node, int by) {
        long[] paths = new long[node + 1];
        for (int n = by; n <= node; n++) {
            Tensor t = nodes.get(n);
            if (n == by) {
                paths[n] = 1;
            } else if (t.op != NONE) {
                paths[n] = paths[t.a] + (t.op <= 4 ? paths[t.b] : 0);
            }
        }
        return paths[node];
    }

    long ways(int node, int by) {
        return has(node) && has(by) && by <= node ? waysOf(node, by) : BAD;
    }

    int parameter(int leaf, boolean on) {
        if (!hasLeaf(leaf)) {
            return BAD;
        }
        int was = nodes.get(leaf).parameter ? 1 : 0;
        nodes.get(leaf).parameter = on;
        return was;
    }

    int rate(int p, int q) {
        if (q <= 0) {
            return BAD;
        }
        rate = Ratio.of(p, q);
        return 0;
    }

    int train(int node, int steps) {
        if (!has(node) || steps < 0 || steps > 20) {
            return BAD;
        }
        if (nodes.get(node).sides.length > 0) {
            return TURN;
        }
        for (int s = 0; s < steps; s++) {
            Ratio[][] sums = sums(node, -1);
            for (int n = 0; n < sums.length; n++) {
                Tensor t = nodes.get(n);
                for (int i = 0; t.parameter && i < t.size(); i++) {
                    t.cells[i] = Ratio.rounded(Ratio.minus(t.cells[i], Ratio.times(rate, sums[n][i])));
                }
            }
        }
        int wild = 0;
        for (Tensor t : nodes) {
            for (int i = 0; t.parameter && i < t.size(); i++) {
                wild += t.cells[i] == null ? 1 : 0;
            }
        }
        return wild;
    }

    // ---- tables

    int row(int a, int b, int c, int d, int cls) {
        int[] row = {a, b, c, d, cls};
        for (int k = 0; k < 4; k++) {
            if (row[k] < -1000 || row[k] > 1000) {
                return BAD;
            }
        }
        if (cls < 0 || cls > 3) {
            return BAD;
        }
        if (rows.size() == 40) {
            return FULL;
        }
        rows.add(row);
        return rows.size();
    }

    private static Ratio impurity(List<int[]> some) {
        Ratio left = Ratio.ONE;
        for (int cls = 0; cls < 4; cls++) {
            int n = 0;
            for (int[] row : some) {
                n += row[4] == cls ? 1 : 0;
            }
            Ratio share = Ratio.of(n, some.size());
            left = Ratio.minus(left, Ratio.times(share, share));
        }
        return left;
    }

    private Ratio costAt(int column, int v) {
        List<int[]> low = new ArrayList<>();
        List<int[]> high = new ArrayList<>();
        for (int[] row : rows) {
            (row[column] <= v ? low : high).add(row);
        }
        if (low.isEmpty() || high.isEmpty()) {
            return null;
        }
        Ratio sum = Ratio.plus(Ratio.times(impurity(low), Ratio.of(low.size(), 1)),
                Ratio.times(impurity(high), Ratio.of(high.size(), 1)));
        return Ratio.over(sum, Ratio.of(rows.size(), 1));
    }

    int cut(int column) {
        if (column < 0 || column > 3) {
            return BAD;
        }
        int best = 10000;
        for (int v = -1000; v <= 1000; v++) {
            boolean stands = false;
            for (int[] row : rows) {
                stands = stands || row[column] == v;
            }
            Ratio cost = stands ? costAt(column, v) : null;
            if (cost != null && (best == 10000 || Ratio.less(cost, costAt(column, best)))) {
                best = v;
            }
        }
        return best;
    }

    long cost(int column, int v, int side) {
        return column < 0 || column > 3 || !isSide(side) ? Check.BAD_FRACTION : Ratio.side(costAt(column, v), side);
    }

    int best() {
        int best = NONE;
        for (int column = 3; column >= 0; column--) {
            int v = cut(column);
            if (v != 10000 && (best == NONE || !Ratio.less(costAt(best, cut(best)), costAt(column, v)))) {
                best = column;
            }
        }
        return best;
    }

    int clear() {
        int n = rows.size();
        rows.clear();
        return n;
    }

    // ---- games

    int game(int n) {
        if (n < 0 || n > 8) {
            return BAD;
        }
        players = n;
        worths = new int[256];
        return 0;
    }

    int worth(int set, int v) {
        if (set <= 0 || set >= 1 << players || v < -10000 || v > 10000) {
            return BAD;
        }
        int before = worths[set];
        worths[set] = v;
        return before;
    }

    /** Goes through all orders: the sum of what the worth grows by, and their number. */
    private long[] orders(int player, int there) {
        if (there == (1 << players) - 1) {
            return new long[] {0, 1};
        }
        long[] both = {0, 0};
        for (int k = 0; k < players; k++) {
            if ((there >> k & 1) == 0) {
                long[] rest = orders(player, there | 1 << k);
                both[0] += rest[0] + (k == player ? rest[1] * (worths[there | 1 << k] - worths[there]) : 0);
                both[1] += rest[1];
            }
        }
        return both;
    }

    long share(int player, int side) {
        if (player < 0 || player >= players || !isSide(side)) {
            return Check.BAD_FRACTION;
        }
        long[] both = orders(player, 0);
        return Ratio.side(Ratio.of(both[0], both[1]), side);
    }

    // ---- scores

    int pair(int mark, boolean truth) {
        if (pairs.size() == 40) {
            return FULL;
        }
        pairs.add(new long[] {mark, truth ? 1 : 0});
        return pairs.size();
    }

    private Ratio scoreOf(int kind) {
        List<Long> yes = new ArrayList<>();
        List<Long> no = new ArrayList<>();
        for (long[] p : pairs) {
            (p[1] == 1 ? yes : no).add(p[0]);
        }
        if (kind == 0) {
            int twice = 0;
            for (long y : yes) {
                for (long n : no) {
                    twice += y > n ? 2 : y == n ? 1 : 0;
                }
            }
            return Ratio.of(twice, 2L * yes.size() * no.size());
        }
        if (kind == 3) {
            Ratio sum = Ratio.ZERO;
            for (long y : yes) {
                int r = 0;
                for (long[] p : pairs) {
                    r += p[0] >= y ? 1 : 0;
                }
                sum = Ratio.plus(sum, Ratio.of(1, r));
            }
            return Ratio.over(sum, Ratio.of(yes.size(), 1));
        }
        return thresholds(kind, yes, no);
    }

    private Ratio thresholds(int kind, List<Long> yes, List<Long> no) {
        Ratio best = kind == 1 && pairs.isEmpty() ? null : Ratio.ZERO;
        List<Long> ts = new ArrayList<>(List.of(Long.MIN_VALUE, Long.MAX_VALUE));
        for (long[] p : pairs) {
            ts.add(p[0]);
            ts.add(p[0] + 1);
        }
        for (long t : ts) {
            int told = 0, falsely = 0;
            for (long y : yes) {
                told += y >= t ? 1 : 0;
            }
            for (long n : no) {
                falsely += n >= t ? 1 : 0;
            }
            int wrong = falsely + yes.size() - told;
            Ratio found = kind == 1 ? Ratio.of(pairs.size() - wrong, pairs.size())
                : told == 0 ? Ratio.ZERO : Ratio.of(2 * told, 2 * told + wrong);
            best = best != null && Ratio.less(best, found) ? found : best;
        }
        return best;
    }

    long score(int kind, int side) {
        return kind < 0 || kind > 3 || !isSide(side) ? Check.BAD_FRACTION : Ratio.side(scoreOf(kind), side);
    }

    int forget() {
        int n = pairs.size();
        pairs.clear();
        return n;
    }

    // ---- tokens

    int feed(long bytes, int n) {
        if (n < 1 || n > 8) {
            return BAD;
        }
        List<Integer> more = new ArrayList<>();
        for (int k = 0; k < n; k++) {
            int c = (int) (bytes >> 8 * k) & 255;
            if (c < 'a' || c > 'z') {
                return BAD;
            }
            more.add(c - 'a');
        }
        if (text.size() + n > 200) {
            return FULL;
        }
        text.addAll(more);
        return text.size();
    }

    int empty() {
        int n = text.size();
        text.clear();
        return n;
    }

    private static List<Integer> replaced(List<Integer> text, int first, int second, int token) {
        List<Integer> done = new ArrayList<>();
        for (int i = 0; i < text.size(); i++) {
            if (i + 1 < text.size() && text.get(i) == first && text.get(i + 1) == second) {
                done.add(token);
                i++;
            } else {
                done.add(text.get(i));
            }
        }
        return done;
    }

    int merge() {
        int most = 1, bestFirst = -1, bestSecond = -1;
        for (int first = 0; first < 86; first++) {
            for (int second = 0; second < 86 && text.contains(first); second++) {
                int stands = text.size() - replaced(text, first, second, 999).size();
                if (stands > most) {
                    most = stands;
                    bestFirst = first;
                    bestSecond = second;
                }
            }
        }
        if (most < 2) {
            return NONE;
        }
        if (merges.size() == 60) {
            return FULL;
        }
        merges.add(new int[] {bestFirst, bestSecond});
        text = replaced(text, bestFirst, bestSecond, 25 + merges.size());
        return 25 + merges.size();
    }

    private int letters(int token) {
        return token < 26 ? 1 : letters(merges.get(token - 26)[0]) + letters(merges.get(token - 26)[1]);
    }

    int merged(int i, int what) {
        if (i < 0 || i >= merges.size() || what < 0 || what > 2) {
            return BAD;
        }
        return what == 2 ? letters(i + 26) : merges.get(i)[what];
    }

    int encode() {
        for (int m = 0; m < merges.size(); m++) {
            text = replaced(text, merges.get(m)[0], merges.get(m)[1], 26 + m);
        }
        return text.size();
    }

    int token(int i) {
        return i < 0 || i >= text.size() ? NONE : text.get(i);
    }

    int count(int what) {
        int parameters = 0;
        for (Tensor t : nodes) {
            parameters += t.parameter ? 1 : 0;
        }
        int[] all = {nodes.size(), rows.size(), players, pairs.size(), text.size(), merges.size(), parameters};
        return what < 0 || what > 6 ? BAD : all[what];
    }
}
