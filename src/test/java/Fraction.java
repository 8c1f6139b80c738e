import java.math.BigInteger;

/** Fractions without a limit, always in lowest terms, below above 0. */
final class Fraction implements Comparable<Fraction> {
    static final Fraction ZERO = of(0, 1);

    final BigInteger above;
    final BigInteger below;

    private Fraction(BigInteger above, BigInteger below) {
        BigInteger divisor = above.gcd(below);
        if (below.signum() < 0) {
            divisor = divisor.negate();
        }
        this.above = above.divide(divisor);
        this.below = below.divide(divisor);
    }

    static Fraction of(long above, long below) {
        return new Fraction(BigInteger.valueOf(above), BigInteger.valueOf(below));
    }

    static Fraction of(long whole) {
        return of(whole, 1);
    }

    Fraction plus(Fraction o) {
        return new Fraction(above.multiply(o.below).add(o.above.multiply(below)), below.multiply(o.below));
    }

    Fraction less(Fraction o) {
        return plus(o.times(of(-1)));
    }

    Fraction times(Fraction o) {
        return new Fraction(above.multiply(o.above), below.multiply(o.below));
    }

    Fraction by(Fraction o) {
        return new Fraction(above.multiply(o.below), below.multiply(o.above));
    }

    Fraction size() {
        return new Fraction(above.abs(), below);
    }

    /** The greatest whole number that is no greater. */
    long floor() {
        BigInteger[] parts = above.divideAndRemainder(below);
        return parts[0].longValueExact() - (parts[1].signum() < 0 ? 1 : 0);
    }

    long told(int what) {
        return (what == 0 ? above : below).longValueExact();
    }

    @Override
    public int compareTo(Fraction o) {
        return above.multiply(o.below).compareTo(o.above.multiply(below));
    }
}
