import java.math.BigInteger;

/** A fraction of whole numbers without a limit, in lowest terms. */
final class Fraction implements Comparable<Fraction> {
    static final Fraction ZERO = of(0);
    final BigInteger above;
    final BigInteger below;

    Fraction(BigInteger above, BigInteger below) {
        BigInteger common = above.gcd(below);
        if (below.signum() < 0) {
            common = common.negate();
        }
        this.above = above.divide(common);
        this.below = below.divide(common);
    }

    static Fraction of(long v) {
        return new Fraction(BigInteger.valueOf(v), BigInteger.ONE);
    }

    Fraction plus(Fraction o) {
        return new Fraction(above.multiply(o.below).add(o.above.multiply(below)), below.multiply(o.below));
    }

    Fraction minus(Fraction o) {
        return plus(new Fraction(o.above.negate(), o.below));
    }

    Fraction times(Fraction o) {
        return new Fraction(above.multiply(o.above), below.multiply(o.below));
    }

    Fraction over(Fraction o) {
        return new Fraction(above.multiply(o.below), below.multiply(o.above));
    }

    int sign() {
        return above.signum();
    }

    @Override
    public int compareTo(Fraction o) {
        return minus(o).sign();
    }
}
