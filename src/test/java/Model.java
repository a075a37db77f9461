import java.math.BigDecimal;
import java.math.BigInteger;
import java.math.MathContext;
import java.math.RoundingMode;

/**
 * A number as the document's terms tell it, by other ways than the program's: unbounded whole
 * numbers, roots to 100 digits, and part i standing for the product of V2 (if i has bit 1) and
 * V3 (if i has bit 2).
 */
final class Model {
    private static final MathContext DIGITS = new MathContext(100);
    private static final BigDecimal[] ROOTS = {
        BigDecimal.ONE, root(2), root(3), root(6)};

    final BigInteger[] parts;
    final BigInteger m;

    /** m is not 0. */
    Model(BigInteger[] parts, BigInteger m) {
        BigInteger divisor = m.abs();
        for (BigInteger part : parts) {
            divisor = divisor.gcd(part);
        }
        divisor = m.signum() < 0 ? divisor.negate() : divisor;
        this.parts = new BigInteger[4];
        for (int i = 0; i < 4; i++) {
            this.parts[i] = parts[i].divide(divisor);
        }
        this.m = m.divide(divisor);
    }

    static Model of(int a, int b, int c, int d, int m) {
        return new Model(new BigInteger[] {BigInteger.valueOf(a), BigInteger.valueOf(b),
            BigInteger.valueOf(c), BigInteger.valueOf(d)}, BigInteger.valueOf(m));
    }

    private static BigDecimal root(int of) {
        return BigDecimal.valueOf(of).sqrt(DIGITS);
    }

    Model with(int k, int x) {
        BigInteger[] changed = parts.clone();
        changed[k] = BigInteger.valueOf(x);
        return new Model(changed, m);
    }

    /** This number times a whole one. */
    Model times(int n) {
        return times(of(n, 0, 0, 0, 1));
    }

    Model plus(Model other) {
        BigInteger[] sum = new BigInteger[4];
        for (int i = 0; i < 4; i++) {
            sum[i] = parts[i].multiply(other.m).add(other.parts[i].multiply(m));
        }
        return new Model(sum, m.multiply(other.m));
    }

    Model minus(Model other) {
        return plus(other.times(-1));
    }

    Model times(Model other) {
        BigInteger[] product = {BigInteger.ZERO, BigInteger.ZERO, BigInteger.ZERO, BigInteger.ZERO};
        for (int i = 0; i < 4; i++) {
            for (int j = 0; j < 4; j++) {
                int both = i & j;
                int factor = ((both & 1) != 0 ? 2 : 1) * ((both & 2) != 0 ? 3 : 1);
                BigInteger term = parts[i].multiply(other.parts[j]).multiply(BigInteger.valueOf(factor));
                product[i ^ j] = product[i ^ j].add(term);
            }
        }
        return new Model(product, m.multiply(other.m));
    }

    Model conjugate(int which) {
        BigInteger[] changed = new BigInteger[4];
        for (int i = 0; i < 4; i++) {
            changed[i] = Integer.bitCount(i & which) == 1 ? parts[i].negate() : parts[i];
        }
        return new Model(changed, m);
    }

    private Model otherConjugates() {
        return conjugate(1).times(conjugate(2)).times(conjugate(3));
    }

    /** The product of the four conjugates, a fraction. */
    Model norm() {
        return times(otherConjugates());
    }

    /** 1 divided by this number, which is not 0. */
    Model inverse() {
        Model norm = norm();
        BigInteger[] turned = {norm.m, BigInteger.ZERO, BigInteger.ZERO, BigInteger.ZERO};
        return otherConjugates().times(new Model(turned, norm.parts[0]));
    }

    boolean isFraction() {
        return parts[1].signum() == 0 && parts[2].signum() == 0 && parts[3].signum() == 0;
    }

    boolean isZero() {
        return isFraction() && parts[0].signum() == 0;
    }

    boolean isOver() {
        BigInteger limit = BigInteger.valueOf(30);
        boolean over = m.compareTo(limit) > 0;
        for (BigInteger part : parts) {
            over |= part.abs().compareTo(limit) > 0;
        }
        return over;
    }

    private BigDecimal top() {
        BigDecimal sum = BigDecimal.ZERO;
        for (int i = 0; i < 4; i++) {
            sum = sum.add(ROOTS[i].multiply(new BigDecimal(parts[i])));
        }
        return sum;
    }

    int sign() {
        return isZero() ? 0 : top().signum();
    }

    /** If roots are in it, it is no whole number, and 100 digits tell on which side it lies. */
    int floor() {
        if (isFraction()) {
            BigInteger[] both = parts[0].divideAndRemainder(m);
            return both[0].intValueExact() + (both[1].signum() < 0 ? -1 : 0);
        }
        BigDecimal value = top().divide(new BigDecimal(m), DIGITS);
        return value.setScale(0, RoundingMode.FLOOR).intValueExact();
    }

    boolean same(Model other) {
        return minus(other).isZero();
    }

    int degree() {
        int different = 0;
        for (int which = 0; which < 4; which++) {
            boolean seen = false;
            for (int before = 0; before < which; before++) {
                seen |= conjugate(which).same(conjugate(before));
            }
            different += seen ? 0 : 1;
        }
        return different;
    }

    int positive() {
        int count = 0;
        for (int which = 0; which < 4; which++) {
            count += conjugate(which).sign() > 0 ? 1 : 0;
        }
        return count;
    }
}
