import java.math.BigInteger;

/** An exact fraction in lowest terms, its bottom above 0. */
record Ratio(BigInteger top, BigInteger bottom) implements Comparable<Ratio> {
    static final Ratio ZERO = of(0);
    static final Ratio ONE = of(1);

    static Ratio of(long number) {
        return new Ratio(BigInteger.valueOf(number), BigInteger.ONE);
    }

    private static Ratio of(BigInteger top, BigInteger bottom) {
        BigInteger divisor = top.gcd(bottom);
        if (bottom.signum() < 0) {
            divisor = divisor.negate();
        }
        return new Ratio(top.divide(divisor), bottom.divide(divisor));
    }

    Ratio plus(Ratio other) {
        return of(top.multiply(other.bottom).add(other.top.multiply(bottom)), bottom.multiply(other.bottom));
    }

    Ratio minus(Ratio other) {
        return plus(other.times(of(-1)));
    }

    Ratio times(Ratio other) {
        return of(top.multiply(other.top), bottom.multiply(other.bottom));
    }

    Ratio by(Ratio other) {
        return of(top.multiply(other.bottom), bottom.multiply(other.top));
    }

    int sign() {
        return top.signum();
    }

    @Override
    public int compareTo(Ratio other) {
        return minus(other).sign();
    }
}
