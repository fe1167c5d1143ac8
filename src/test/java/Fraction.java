import java.math.BigInteger;

/** An exact fraction in lowest terms. */
final class Fraction implements Comparable<Fraction> {
    static final Fraction ZERO = of(0, 1);
    static final Fraction ONE = of(1, 1);
    static final Fraction HALF = of(1, 2);

    final BigInteger upper;
    final BigInteger lower;

    private Fraction(BigInteger upper, BigInteger lower) {
        BigInteger divisor = upper.gcd(lower).multiply(BigInteger.valueOf(lower.signum()));
        this.upper = upper.divide(divisor);
        this.lower = lower.divide(divisor);
    }

    static Fraction of(long upper, long lower) {
        return new Fraction(BigInteger.valueOf(upper), BigInteger.valueOf(lower));
    }

    Fraction plus(Fraction other) {
        return new Fraction(upper.multiply(other.lower).add(other.upper.multiply(lower)), lower.multiply(other.lower));
    }

    Fraction minus(Fraction other) {
        return plus(other.times(-1));
    }

    Fraction times(long factor) {
        return new Fraction(upper.multiply(BigInteger.valueOf(factor)), lower);
    }

    Fraction over(long divisor) {
        return new Fraction(upper, lower.multiply(BigInteger.valueOf(divisor)));
    }

    BigInteger floor() {
        BigInteger[] parts = upper.divideAndRemainder(lower);
        return parts[1].signum() < 0 ? parts[0].subtract(BigInteger.ONE) : parts[0];
    }

    Fraction lessWhole() {
        return new Fraction(upper.subtract(floor().multiply(lower)), lower);
    }

    long part(boolean tellsLower) {
        return (tellsLower ? lower : upper).longValueExact();
    }

    boolean atLeast(Fraction other) {
        return compareTo(other) >= 0;
    }

    @Override
    public int compareTo(Fraction other) {
        return upper.multiply(other.lower).compareTo(other.upper.multiply(lower));
    }

    @Override
    public boolean equals(Object other) {
        return other instanceof Fraction && compareTo((Fraction) other) == 0;
    }

    @Override
    public int hashCode() {
        return upper.hashCode() * 31 + lower.hashCode();
    }

    @Override
    public String toString() {
        return upper + " by " + lower;
    }
}
