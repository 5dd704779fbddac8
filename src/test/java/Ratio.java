import java.math.BigInteger;

/** A rational number of any size, for the slow model. */
record Ratio(BigInteger top, BigInteger bottom) implements Comparable<Ratio> {
    static final Ratio ZERO = of(0);
    static final Ratio ONE = of(1);

    Ratio {
        if (bottom.signum() == 0) {
            throw new ArithmeticException("bottom 0");
        }
        BigInteger divisor = top.gcd(bottom);
        if (bottom.signum() < 0) {
            divisor = divisor.negate();
        }
        top = top.divide(divisor);
        bottom = bottom.divide(divisor);
    }

    static Ratio of(long value) {
        return new Ratio(BigInteger.valueOf(value), BigInteger.ONE);
    }

    static Ratio of(long top, long bottom) {
        return new Ratio(BigInteger.valueOf(top), BigInteger.valueOf(bottom));
    }

    Ratio plus(Ratio o) {
        return new Ratio(top.multiply(o.bottom).add(o.top.multiply(bottom)), bottom.multiply(o.bottom));
    }

    Ratio minus(Ratio o) {
        return plus(o.negate());
    }

    Ratio times(Ratio o) {
        return new Ratio(top.multiply(o.top), bottom.multiply(o.bottom));
    }

    Ratio over(Ratio o) {
        return new Ratio(top.multiply(o.bottom), bottom.multiply(o.top));
    }

    Ratio negate() {
        return new Ratio(top.negate(), bottom);
    }

    int signum() {
        return top.signum();
    }

    BigInteger floor() {
        BigInteger[] parts = top.divideAndRemainder(bottom);
        return parts[1].signum() < 0 ? parts[0].subtract(BigInteger.ONE) : parts[0];
    }

    @Override
    public int compareTo(Ratio o) {
        return top.multiply(o.bottom).compareTo(o.top.multiply(bottom));
    }
}
