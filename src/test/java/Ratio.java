import java.math.BigInteger;

/** An exact fraction for the tests, in lowest terms with a lower part above 0. */
final class Ratio implements Comparable<Ratio> {
    static final Ratio ZERO = of(0), ONE = of(1), HALF = of(1, 2);
    final BigInteger above, below;

    Ratio(BigInteger above, BigInteger below) {
        BigInteger shared = above.gcd(below);
        BigInteger by = below.signum() < 0 ? shared.negate() : shared;
        this.above = above.divide(by);
        this.below = below.divide(by);
    }

    static Ratio of(long v) {
        return of(v, 1);
    }

    static Ratio of(long above, long below) {
        return new Ratio(BigInteger.valueOf(above), BigInteger.valueOf(below));
    }

    Ratio plus(Ratio o) {
        return new Ratio(above.multiply(o.below).add(o.above.multiply(below)), below.multiply(o.below));
    }

    Ratio minus(Ratio o) {
        return plus(new Ratio(o.above.negate(), o.below));
    }

    Ratio times(Ratio o) {
        return new Ratio(above.multiply(o.above), below.multiply(o.below));
    }

    Ratio by(Ratio o) {
        return new Ratio(above.multiply(o.below), below.multiply(o.above));
    }

    int sign() {
        return above.signum();
    }

    BigInteger floor() {
        BigInteger[] both = above.divideAndRemainder(below);
        return both[1].signum() < 0 ? both[0].subtract(BigInteger.ONE) : both[0];
    }

    @Override
    public int compareTo(Ratio o) {
        return minus(o).sign();
    }
}
