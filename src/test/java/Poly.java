import java.math.BigInteger;
import java.util.ArrayList;
import java.util.List;

/** Polynomials in whole numbers of any size, written apart from the class under test. */
final class Poly {
    final BigInteger[] c;

    Poly(BigInteger[] given) {
        int n = given.length;
        while (n > 0 && given[n - 1].signum() == 0) {
            n--;
        }
        c = new BigInteger[n];
        System.arraycopy(given, 0, c, 0, n);
    }

    static Poly of(long... numbers) {
        BigInteger[] c = new BigInteger[numbers.length];
        for (int k = 0; k < c.length; k++) {
            c[k] = BigInteger.valueOf(numbers[k]);
        }
        return new Poly(c);
    }

    int degree() {
        return c.length - 1;
    }

    BigInteger at(int k) {
        return k >= 0 && k < c.length ? c[k] : BigInteger.ZERO;
    }

    BigInteger top() {
        return at(degree());
    }

    Poly plus(Poly q) {
        BigInteger[] sum = new BigInteger[Math.max(c.length, q.c.length)];
        for (int k = 0; k < sum.length; k++) {
            sum[k] = at(k).add(q.at(k));
        }
        return new Poly(sum);
    }

    Poly scaled(BigInteger factor) {
        BigInteger[] out = new BigInteger[c.length];
        for (int k = 0; k < out.length; k++) {
            out[k] = c[k].multiply(factor);
        }
        return new Poly(out);
    }

    Poly scaled(long factor) {
        return scaled(BigInteger.valueOf(factor));
    }

    Poly times(Poly q) {
        Poly sum = of();
        for (int k = 0; k < c.length; k++) {
            BigInteger[] part = new BigInteger[q.c.length + k];
            for (int j = 0; j < part.length; j++) {
                part[j] = q.at(j - k).multiply(c[k]);
            }
            sum = sum.plus(new Poly(part));
        }
        return sum;
    }

    Poly slope() {
        BigInteger[] out = new BigInteger[Math.max(c.length - 1, 0)];
        for (int k = 0; k < out.length; k++) {
            out[k] = c[k + 1].multiply(BigInteger.valueOf(k + 1));
        }
        return new Poly(out);
    }

    /** Divided by what all numbers share: a positive number. */
    Poly primitive() {
        BigInteger shared = BigInteger.ZERO;
        for (BigInteger number : c) {
            shared = shared.gcd(number);
        }
        if (shared.signum() == 0) {
            return this;
        }
        BigInteger[] out = new BigInteger[c.length];
        for (int k = 0; k < out.length; k++) {
            out[k] = c[k].divide(shared);
        }
        return new Poly(out);
    }

    /** What this leaves by q, times a positive number. */
    Poly rest(Poly q) {
        Poly left = this;
        BigInteger size = q.top().abs();
        while (left.degree() >= q.degree() && left.degree() >= 0) {
            int up = left.degree() - q.degree();
            BigInteger[] lift = new BigInteger[up + 1];
            for (int k = 0; k < up; k++) {
                lift[k] = BigInteger.ZERO;
            }
            lift[up] = left.top().multiply(BigInteger.valueOf(q.top().signum())).negate();
            left = left.scaled(size).plus(q.times(new Poly(lift)));
        }
        return left;
    }

    /** The quotient, where q, a primitive polynomial, goes into this. */
    Poly by(Poly q) {
        BigInteger[] out = new BigInteger[Math.max(degree() - q.degree() + 1, 0)];
        Poly left = this;
        for (int k = out.length - 1; k >= 0; k--) {
            BigInteger[] both = left.at(k + q.degree()).divideAndRemainder(q.top());
            if (both[1].signum() != 0) {
                throw new IllegalStateException("does not go");
            }
            out[k] = both[0];
            BigInteger[] lift = new BigInteger[k + 1];
            for (int j = 0; j < k; j++) {
                lift[j] = BigInteger.ZERO;
            }
            lift[k] = both[0].negate();
            left = left.plus(q.times(new Poly(lift)));
        }
        if (left.degree() >= 0) {
            throw new IllegalStateException("does not go");
        }
        return new Poly(out);
    }

    Poly shared(Poly q) {
        Poly high = primitive();
        Poly low = q.primitive();
        while (low.degree() >= 0) {
            Poly left = high.rest(low).primitive();
            high = low;
            low = left;
        }
        return high;
    }

    Poly withoutRepeats() {
        return degree() < 1 ? this : primitive().by(shared(slope()));
    }

    /** This, its derivative, then rests with the other sign, each times some positive number. */
    List<Poly> proof() {
        List<Poly> members = new ArrayList<>();
        members.add(this);
        Poly next = slope();
        while (next.degree() >= 0) {
            members.add(next);
            int n = members.size();
            next = members.get(n - 2).rest(members.get(n - 1)).primitive().scaled(-1);
        }
        return members;
    }

    /** The sign at x / 2^s. */
    int sign(BigInteger x, int s) {
        BigInteger sum = BigInteger.ZERO;
        for (int k = 0; k < c.length; k++) {
            sum = sum.add(c[k].multiply(x.pow(k)).shiftLeft(s * (degree() - k)));
        }
        return sum.signum();
    }
}
