import java.math.BigInteger;
import java.util.ArrayList;
import java.util.List;

/** The document once more, plainly and slowly, to hold the class against. */
final class Model {
    private static final long LIMIT = 100000000;
    private static final long NO = -1000000000000000000L;

    private final Poly[] trays = new Poly[8];
    private final Found[] found = new Found[8];
    private String tape = "";
    private int fault;

    Model() {
        for (int k = 0; k < 8; k++) {
            trays[k] = Poly.of();
        }
    }

    /** A polynomial that is not 0, with all that share its roots: level i has those it has more than i times. */
    private static final class Found {
        final Poly p;
        final List<Poly> levels = new ArrayList<>();
        final List<List<Poly>> proofs = new ArrayList<>();
        final int roots;

        Found(Poly given) {
            p = given;
            Poly level = given;
            while (level.degree() > 0) {
                levels.add(level);
                proofs.add(level.withoutRepeats().proof());
                level = level.shared(level.slope());
            }
            roots = upTo(BigInteger.ONE.shiftLeft(40), 0);
        }

        int unlikeUpTo(int level, BigInteger x, int s) {
            List<Poly> proof = proofs.get(level);
            return changes(proof, BigInteger.ONE.shiftLeft(40).negate(), 0) - changes(proof, x, s);
        }

        static int changes(List<Poly> proof, BigInteger x, int s) {
            int changes = 0;
            int before = 0;
            for (Poly member : proof) {
                int sign = member.sign(x, s);
                if (sign * before < 0) {
                    changes++;
                }
                before = sign == 0 ? before : sign;
            }
            return changes;
        }

        int upTo(BigInteger x, int s) {
            int sum = 0;
            for (int k = 0; k < levels.size(); k++) {
                sum += unlikeUpTo(k, x, s);
            }
            return sum;
        }

        int below(BigInteger x, int s) {
            int sum = upTo(x, s);
            for (Poly level : levels) {
                sum -= level.sign(x, s) == 0 ? 1 : 0;
            }
            return sum;
        }

        int unlikeBelow(BigInteger x, int s) {
            return levels.isEmpty() ? 0 : unlikeUpTo(0, x, s) - (p.sign(x, s) == 0 ? 1 : 0);
        }

        int unlike() {
            return levels.isEmpty() ? 0 : unlikeUpTo(0, BigInteger.ONE.shiftLeft(40), 0);
        }

        BigInteger floor(int k, int s) {
            BigInteger low = BigInteger.ONE.shiftLeft(28 + s).negate();
            BigInteger high = low.negate();
            while (high.subtract(low).compareTo(BigInteger.ONE) > 0) {
                BigInteger middle = low.add(high).shiftRight(1);
                if (below(middle, s) <= k) {
                    low = middle;
                } else {
                    high = middle;
                }
            }
            return low;
        }

        int often(int k) {
            for (int s = 4; s < 1000; s *= 3) {
                BigInteger m = floor(k, s);
                BigInteger next = m.add(BigInteger.ONE);
                if (unlikeBelow(next, s) - unlikeBelow(m, s) == 1) {
                    return below(next, s) - below(m, s);
                }
            }
            throw new IllegalStateException("roots too near");
        }
    }

    private Found found(int tray) {
        if (found[tray] == null || found[tray].p != trays[tray]) {
            found[tray] = new Found(trays[tray]);
        }
        return found[tray];
    }

    private static boolean isTray(int tray) {
        return 0 <= tray && tray <= 7;
    }

    private static boolean fits(Poly p) {
        for (BigInteger number : p.c) {
            if (number.abs().compareTo(BigInteger.valueOf(LIMIT)) > 0) {
                return false;
            }
        }
        return p.degree() <= 8;
    }

    private boolean keep(int tray, Poly p) {
        if (!fits(p)) {
            return false;
        }
        trays[tray] = p;
        return true;
    }

    int feed(int a, int b, int c, int d, int e) {
        if (tape.length() + 20 > 200) {
            return -1;
        }
        StringBuilder more = new StringBuilder(tape);
        for (int word : new int[] {a, b, c, d, e}) {
            more.append((char) (word >>> 24)).append((char) (word >>> 16 & 255));
            more.append((char) (word >>> 8 & 255)).append((char) (word & 255));
        }
        tape = more.toString();
        return tape.length();
    }

    boolean end(int n) {
        if (n < 0 || n > tape.length()) {
            return false;
        }
        tape = tape.substring(0, n);
        return true;
    }

    boolean read(int tray) {
        if (!isTray(tray)) {
            return false;
        }
        Text text = new Text(tape);
        tape = "";
        fault = text.fault;
        if (fault != 0) {
            return false;
        }
        trays[tray] = text.sum;
        return true;
    }

    int fault() {
        return fault;
    }

    /** A text, by the grammar: each part of it a method. */
    private static final class Text {
        private final String text;
        private int at;
        int fault;
        Poly sum = Poly.of();

        Text(String given) {
            text = given;
            skip();
            boolean minus = take('-');
            term(minus);
            while (fault == 0 && at < text.length()) {
                if (take('+')) {
                    term(false);
                } else if (take('-')) {
                    term(true);
                } else {
                    fault = 1 + 8 * at;
                }
            }
            if (fault == 0 && !fits(sum)) {
                fault = 3 + 8 * text.length();
            }
        }

        private void skip() {
            while (at < text.length() && (text.charAt(at) == 32 || text.charAt(at) == 10)) {
                at++;
            }
        }

        private boolean take(char sign) {
            if (at < text.length() && text.charAt(at) == sign) {
                at++;
                skip();
                return true;
            }
            return false;
        }

        private boolean onDigit() {
            return at < text.length() && "0123456789".indexOf(text.charAt(at)) >= 0;
        }

        private long number(long greatest) {
            int from = at;
            while (onDigit()) {
                at++;
            }
            BigInteger value = new BigInteger(text.substring(from, at));
            if (value.compareTo(BigInteger.valueOf(greatest)) > 0) {
                fault = 2 + 8 * from;
                return 0;
            }
            skip();
            return value.longValue();
        }

        private void term(boolean minus) {
            long factor = 1;
            int power = 0;
            boolean some = false;
            if (onDigit()) {
                factor = number(LIMIT);
                some = true;
                if (fault != 0) {
                    return;
                }
            }
            if (take('x')) {
                some = true;
                power = 1;
                if (take('^')) {
                    if (!onDigit()) {
                        fault = 1 + 8 * at;
                        return;
                    }
                    power = (int) number(8);
                    if (fault != 0) {
                        return;
                    }
                }
            }
            if (!some) {
                fault = 1 + 8 * at;
                return;
            }
            long[] one = new long[power + 1];
            one[power] = minus ? -factor : factor;
            sum = sum.plus(Poly.of(one));
        }
    }

    boolean put(int tray, int k, int v) {
        if (!isTray(tray) || k < 0 || k > 8 || Math.abs((long) v) > LIMIT) {
            return false;
        }
        BigInteger[] c = new BigInteger[9];
        for (int j = 0; j < 9; j++) {
            c[j] = j == k ? BigInteger.valueOf(v) : trays[tray].at(j);
        }
        trays[tray] = new Poly(c);
        return true;
    }

    boolean operate(int tray, int from, int operator, int a) {
        if (!isTray(tray) || !isTray(from) || operator < 0 || operator > 9 || Math.abs((long) a) > 1000) {
            return false;
        }
        return keep(tray, made(trays[from], operator, a));
    }

    private static Poly made(Poly p, int operator, int a) {
        Poly x = Poly.of(0, 1);
        Poly slope = p.slope();
        switch (operator) {
            case 0:
                return slope;
            case 1:
                return x.times(slope);
            case 2:
                return p.plus(slope.scaled(a));
            case 3:
                return Poly.of(a, 1).times(p);
            case 4: {
                Poly power = Poly.of(1);
                Poly sum = Poly.of();
                for (int k = 0; k <= p.degree(); k++) {
                    sum = sum.plus(power.scaled(p.at(k)));
                    power = power.times(Poly.of(a, 1));
                }
                return sum;
            }
            case 7:
                return Poly.of(1, a).times(p).plus(Poly.of(0, 1, -1).times(slope));
            case 8:
                return x.times(p).plus(x.times(slope));
            default: {
                BigInteger[] c = new BigInteger[p.c.length];
                BigInteger weight = BigInteger.ONE;
                for (int k = 0; k < c.length; k++) {
                    if (operator == 5) {
                        c[k] = p.at(p.degree() - k);
                    } else if (operator == 6) {
                        c[k] = p.at(k).multiply(BigInteger.valueOf(a).pow(k));
                    } else {
                        weight = k == 0 ? weight : weight.multiply(BigInteger.valueOf(k));
                        c[k] = p.at(k).multiply(weight);
                    }
                }
                return new Poly(c);
            }
        }
    }

    boolean join(int tray, int one, int other, int a, int b) {
        if (!isTray(tray) || !isTray(one) || !isTray(other) || Math.abs((long) a) > 1000 || Math.abs((long) b) > 1000) {
            return false;
        }
        return keep(tray, trays[one].scaled(a).plus(trays[other].scaled(b)));
    }

    boolean times(int tray, int one, int other) {
        return isTray(tray) && isTray(one) && isTray(other) && keep(tray, trays[one].times(trays[other]));
    }

    long number(int tray, int k) {
        return isTray(tray) && k >= 0 && k <= 8 ? trays[tray].at(k).longValue() : NO;
    }

    int count(int tray, int what) {
        if (!isTray(tray)) {
            return -1;
        }
        Poly p = trays[tray];
        Found all = found(tray);
        switch (what) {
            case 0:
                return p.degree();
            case 1:
                return all.roots;
            case 2:
                return p.degree() < 0 ? -1 : p.degree() - all.roots;
            case 3:
                return all.unlike();
            case 4: {
                int most = 0;
                for (int k = 0; k < all.roots; k++) {
                    most = Math.max(most, all.often(k));
                }
                return most;
            }
            case 5:
                return isWhole(tray) ? 1 : 0;
            case 6:
                return p.degree() < 1 ? 0 : p.proof().size();
            case 7: {
                for (BigInteger number : p.c) {
                    if (number.signum() < 0) {
                        return 0;
                    }
                }
                return 1;
            }
            default:
                return -1;
        }
    }

    private boolean isWhole(int tray) {
        return trays[tray].degree() >= 0 && trays[tray].degree() == found(tray).roots;
    }

    long root(int tray, int k, int s) {
        if (!isTray(tray) || s < 0 || s > 12 || k < 0 || k >= found(tray).roots) {
            return NO;
        }
        return found(tray).floor(k, s).longValue();
    }

    int often(int tray, int k) {
        if (!isTray(tray) || k < 0 || k >= found(tray).roots) {
            return -1;
        }
        return found(tray).often(k);
    }

    int between(int tray, int a, int b) {
        if (!isTray(tray) || a > b) {
            return -1;
        }
        return found(tray).upTo(BigInteger.valueOf(b), 0) - found(tray).upTo(BigInteger.valueOf(a), 0);
    }

    int sign(int tray, int x, int s) {
        return isTray(tray) && s >= 0 && s <= 12 ? trays[tray].sign(BigInteger.valueOf(x), s) : -2;
    }

    int laced(int one, int other) {
        if (!isTray(one) || !isTray(other)) {
            return -1;
        }
        int less = trays[one].degree() - trays[other].degree();
        if (!isWhole(one) || !isWhole(other) || less < 0 || less > 1) {
            return 0;
        }
        int n = trays[one].degree();
        int m = trays[other].degree();
        for (int k = 1; k <= n; k++) {
            if (k <= m && compare(found(one), n - k, found(other), m - k) < 0) {
                return 0;
            }
            if (k < n && k <= m && compare(found(other), m - k, found(one), n - k - 1) < 0) {
                return 0;
            }
        }
        return 1;
    }

    private static int compare(Found p, int k, Found q, int j) {
        for (int s = 4; s < 3000; s *= 3) {
            BigInteger r = p.floor(k, s);
            int order = r.compareTo(q.floor(j, s));
            if (order != 0) {
                return order;
            }
            BigInteger next = r.add(BigInteger.ONE);
            if (p.unlikeBelow(next, s) - p.unlikeBelow(r, s) == 1
                    && q.unlikeBelow(next, s) - q.unlikeBelow(r, s) == 1) {
                Found both = new Found(p.p.shared(q.p));
                if (both.below(next, s) - both.below(r, s) > 0) {
                    return 0;
                }
            }
        }
        throw new IllegalStateException("roots too near");
    }

    int chain(int from, int to) {
        if (!isTray(from) || !isTray(to)) {
            return -2;
        }
        int k = from;
        while (k < to && laced(k + 1, k) == 1) {
            k++;
        }
        return k < to ? k : -1;
    }

    int member(int tray, int j, int what) {
        if (!isTray(tray) || trays[tray].degree() < 1 || j < 0 || what < 0 || what > 1) {
            return -1;
        }
        List<Poly> proof = trays[tray].proof();
        if (j >= proof.size()) {
            return -1;
        }
        return what == 0 ? proof.get(j).degree() : proof.get(j).top().signum();
    }

    int fails(int tray) {
        if (!isTray(tray) || trays[tray].degree() < 1) {
            return -2;
        }
        List<Poly> proof = trays[tray].proof();
        for (int j = 1; j < proof.size(); j++) {
            if (proof.get(j).degree() + 1 != proof.get(j - 1).degree()
                    || proof.get(j).top().signum() * trays[tray].top().signum() < 0) {
                return j;
            }
        }
        return proof.get(proof.size() - 1).degree() > 0 ? proof.size() : -1;
    }

    int row(int tray, int what) {
        if (!isTray(tray) || what < 0 || what > 4) {
            return -1;
        }
        Poly p = trays[tray];
        int n = p.degree();
        if (n < 0) {
            return -2;
        }
        if (what <= 1) {
            for (int k = 1; k < n; k++) {
                BigInteger square = p.at(k).pow(2);
                BigInteger beside = p.at(k - 1).multiply(p.at(k + 1));
                if (what == 0) {
                    square = square.multiply(BigInteger.valueOf((long) k * (n - k)));
                    beside = beside.multiply(BigInteger.valueOf((k + 1L) * (n - k + 1)));
                }
                if (square.compareTo(beside) < 0) {
                    return k;
                }
            }
            return 0;
        }
        return what == 3 ? hump(p) : bits(p, what);
    }

    private static int hump(Poly p) {
        for (int m = 0; m <= p.degree(); m++) {
            boolean so = true;
            for (int k = 1; k <= p.degree(); k++) {
                int order = p.at(k).compareTo(p.at(k - 1));
                so &= k <= m ? order >= 0 : order <= 0;
            }
            if (so) {
                return 1;
            }
        }
        return 0;
    }

    private static int bits(Poly p, int what) {
        int bits = 0;
        for (int k = 0; k <= p.degree(); k++) {
            boolean greatest = true;
            boolean someAhead = false;
            for (int j = 0; j <= p.degree(); j++) {
                greatest &= p.at(j).compareTo(p.at(k)) <= 0;
                someAhead |= j < k && p.at(j).signum() != 0;
            }
            if (what == 4 ? greatest : p.at(k).signum() == 0 && someAhead) {
                bits += 1 << k;
            }
        }
        return bits;
    }

    long mean(int tray, boolean lower) {
        if (!isTray(tray)) {
            return NO;
        }
        long below = 0;
        long above = 0;
        for (int k = 0; k <= 8; k++) {
            below += number(tray, k);
            above += k * number(tray, k);
        }
        if (below == 0) {
            return NO;
        }
        long shared = BigInteger.valueOf(above).gcd(BigInteger.valueOf(below)).longValue() * Long.signum(below);
        return lower ? below / shared : above / shared;
    }
}
