import java.math.BigInteger;

/** A fraction of any size, always without a common part and with a lower number above 0. */
record Frac(BigInteger above, BigInteger below) implements Comparable<Frac> {
    static final Frac ZERO = of(0, 1);
    static final Frac ONE = of(1, 1);

    Frac {
        BigInteger common = above.gcd(below);
        if (below.signum() < 0) {
            common = common.negate();
        }
        above = above.divide(common);
        below = below.divide(common);
    }

    static Frac of(long above, long below) {
        return new Frac(BigInteger.valueOf(above), BigInteger.valueOf(below));
    }

    Frac plus(Frac other) {
        return new Frac(above.multiply(other.below).add(other.above.multiply(below)), below.multiply(other.below));
    }

    Frac less(Frac other) {
        return plus(new Frac(other.above.negate(), other.below));
    }

    Frac times(Frac other) {
        return new Frac(above.multiply(other.above), below.multiply(other.below));
    }

    Frac by(Frac other) {
        return new Frac(above.multiply(other.below), below.multiply(other.above));
    }

    long floor() {
        BigInteger[] parts = above.divideAndRemainder(below);
        return parts[0].longValueExact() - (parts[1].signum() < 0 ? 1 : 0);
    }

    double near() {
        return above.doubleValue() / below.doubleValue();
    }

    @Override
    public int compareTo(Frac other) {
        return above.multiply(other.below).compareTo(other.above.multiply(below));
    }
}
