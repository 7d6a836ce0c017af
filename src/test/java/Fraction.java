import java.math.BigInteger;

/** A fraction in least terms, its lower number above 0. */
final class Fraction {
    static final Fraction ZERO = of(0);
    final BigInteger top;
    final BigInteger lower;

    private Fraction(BigInteger top, BigInteger lower) {
        BigInteger common = top.gcd(lower);
        if (lower.signum() < 0) {
            common = common.negate();
        }
        this.top = top.divide(common);
        this.lower = lower.divide(common);
    }

    static Fraction of(long whole) {
        return new Fraction(BigInteger.valueOf(whole), BigInteger.ONE);
    }

    Fraction plus(Fraction other) {
        return new Fraction(top.multiply(other.lower).add(other.top.multiply(lower)),
                lower.multiply(other.lower));
    }

    Fraction minus(Fraction other) {
        return plus(other.times(of(-1)));
    }

    Fraction times(Fraction other) {
        return new Fraction(top.multiply(other.top), lower.multiply(other.lower));
    }

    Fraction over(Fraction other) {
        return new Fraction(top.multiply(other.lower), lower.multiply(other.top));
    }

    boolean isZero() {
        return top.signum() == 0;
    }

    long number(int what) {
        return (what == 0 ? top : lower).longValueExact();
    }
}
