import java.math.BigInteger;

/** A fraction of any size; the oracle's own, so that none of the program's reckoning is used. Null is WILD. */
final class Ratio {
    private static final BigInteger MOST = BigInteger.valueOf(2147483647);
    static final Ratio ZERO = of(0, 1), ONE = of(1, 1);

    final BigInteger p, q;
    private final boolean bounded;

    private Ratio(BigInteger p, BigInteger q, boolean bounded) {
        this.p = p;
        this.q = q;
        this.bounded = bounded;
    }

    static Ratio make(BigInteger p, BigInteger q, boolean bounded) {
        if (q.signum() == 0) {
            return null;
        }
        BigInteger g = p.gcd(q).multiply(BigInteger.valueOf(q.signum()));
        BigInteger top = p.divide(g), bottom = q.divide(g);
        if (bounded && (top.abs().compareTo(MOST) > 0 || bottom.compareTo(MOST) > 0)) {
            return null;
        }
        return new Ratio(top, bottom, bounded);
    }

    static Ratio of(long p, long q) {
        return make(BigInteger.valueOf(p), BigInteger.valueOf(q), true);
    }

    /** The same number, in reckoning without bounds. */
    static Ratio unbound(Ratio x) {
        return x == null ? null : new Ratio(x.p, x.q, false);
    }

    private static boolean bound(Ratio x, Ratio y) {
        return x.bounded && y.bounded;
    }

    static Ratio plus(Ratio x, Ratio y) {
        return x == null || y == null ? null
            : make(x.p.multiply(y.q).add(y.p.multiply(x.q)), x.q.multiply(y.q), bound(x, y));
    }

    static Ratio minus(Ratio x, Ratio y) {
        return x == null || y == null ? null
            : make(x.p.multiply(y.q).subtract(y.p.multiply(x.q)), x.q.multiply(y.q), bound(x, y));
    }

    static Ratio times(Ratio x, Ratio y) {
        return x == null || y == null ? null : make(x.p.multiply(y.p), x.q.multiply(y.q), bound(x, y));
    }

    static Ratio over(Ratio x, Ratio y) {
        return x == null || y == null ? null : make(x.p.multiply(y.q), x.q.multiply(y.p), bound(x, y));
    }

    static Ratio rounded(Ratio x) {
        if (x == null) {
            return null;
        }
        BigInteger twice = x.p.multiply(BigInteger.valueOf(8192)).add(x.q);
        BigInteger[] parts = twice.divideAndRemainder(x.q.shiftLeft(1));
        BigInteger floor = parts[1].signum() < 0 ? parts[0].subtract(BigInteger.ONE) : parts[0];
        return make(floor, BigInteger.valueOf(4096), true);
    }

    static boolean less(Ratio x, Ratio y) {
        return x.p.multiply(y.q).compareTo(y.p.multiply(x.q)) < 0;
    }

    boolean isZero() {
        return p.signum() == 0;
    }

    static boolean same(Ratio x, Ratio y) {
        return x == null || y == null ? x == y : x.p.equals(y.p) && x.q.equals(y.q);
    }

    static long side(Ratio x, int side) {
        return x == null ? 0 : (side == 0 ? x.p : x.q).longValueExact();
    }
}
