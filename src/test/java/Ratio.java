import java.math.BigInteger;

/** A fraction without bounds, for the tests. */
final class Ratio implements Comparable<Ratio> {
    static final Ratio ZERO = of(0, 1);
    final BigInteger above;
    final BigInteger below;

    private Ratio(BigInteger a, BigInteger b) {
        BigInteger g = a.gcd(b);
        if (b.signum() < 0) {
            g = g.negate();
        }
        above = a.divide(g);
        below = b.divide(g);
    }

    static Ratio of(long a, long b) {
        return new Ratio(BigInteger.valueOf(a), BigInteger.valueOf(b));
    }

    static Ratio of(long a) {
        return of(a, 1);
    }

    Ratio plus(Ratio o) {
        return new Ratio(above.multiply(o.below).add(o.above.multiply(below)), below.multiply(o.below));
    }

    Ratio minus(Ratio o) {
        return plus(o.negated());
    }

    Ratio times(Ratio o) {
        return new Ratio(above.multiply(o.above), below.multiply(o.below));
    }

    Ratio times(long n) {
        return times(of(n));
    }

    Ratio over(Ratio o) {
        return new Ratio(above.multiply(o.below), below.multiply(o.above));
    }

    Ratio negated() {
        return new Ratio(above.negate(), below);
    }

    int sign() {
        return above.signum();
    }

    long part(int part) {
        return (part == 0 ? above : below).longValueExact();
    }

    @Override
    public int compareTo(Ratio o) {
        return above.multiply(o.below).compareTo(o.above.multiply(below));
    }

    @Override
    public boolean equals(Object o) {
        return o instanceof Ratio && compareTo((Ratio) o) == 0;
    }

    @Override
    public int hashCode() {
        return above.hashCode() * 31 + below.hashCode();
    }

    @Override
    public String toString() {
        return below.equals(BigInteger.ONE) ? above.toString() : above + "/" + below;
    }
}
