import java.math.BigInteger;

/** An exact fraction in lowest terms, its bottom above 0. */
record Ratio(BigInteger top, BigInteger bottom) implements Comparable<Ratio> {
    static final Ratio ZERO = of(0);
    static final Ratio ONE = of(1);

    static Ratio of(long number) {
        return new Ratio(BigInteger.valueOf(number), BigInteger.ONE);
    }

    private static Ratio of(BigInteger top, BigInteger bottom) {
        if (bottom.equals(BigInteger.ONE)) {
            return new Ratio(top, bottom);
        }
        BigInteger divisor = top.gcd(bottom);
        if (bottom.signum() < 0) {
            divisor = divisor.negate();
        }
        return new Ratio(top.divide(divisor), bottom.divide(divisor));
    }

    Ratio plus(Ratio other) {
        if (sign() == 0 || other.sign() == 0) {
            return sign() == 0 ? other : this;
        }
        return of(top.multiply(other.bottom).add(other.top.multiply(bottom)), bottom.multiply(other.bottom));
    }

    Ratio minus(Ratio other) {
        return plus(new Ratio(other.top.negate(), other.bottom));
    }

    Ratio times(Ratio other) {
        if (sign() == 0 || other.sign() == 0) {
            return ZERO;
        }
        return of(top.multiply(other.top), bottom.multiply(other.bottom));
    }

    Ratio by(Ratio other) {
        return of(top.multiply(other.bottom), bottom.multiply(other.top));
    }

    int sign() {
        return top.signum();
    }

    @Override
    public int compareTo(Ratio other) {
        return minus(other).sign();
    }
}
