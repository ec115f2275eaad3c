import java.math.BigInteger;
import java.util.ArrayList;
import java.util.Collections;
import java.util.List;
import java.util.Random;

/**
 * Polynomials made of factors whose roots are known in advance: what is due follows from the roots and the
 * document's words alone, without any sequence of remainders. Their proofs are made with fractions, as told there.
 */
public final class KnownRootsTest {
    private static final int LIMIT = 100000000;
    /** So many binary places tell any two unlike roots of the factors made here apart. */
    private static final int PLACES = 400;

    private static final Check check = new Check();
    private static final Random random = new Random(1311);

    /** (-b + way sqrt(b b - 4 a c)) / 2 a, or, with way 0, -c / b. */
    private record Root(long a, long b, long c, int way) implements Comparable<Root> {
        BigInteger floor(int s) {
            BigInteger upper = BigInteger.valueOf(way == 0 ? -c : -b).shiftLeft(s);
            BigInteger lower = BigInteger.valueOf(way == 0 ? b : 2 * a);
            if (way != 0) {
                BigInteger side = BigInteger.valueOf(b * b - 4 * a * c).shiftLeft(2 * s).sqrt();
                upper = upper.add(way > 0 ? side : side.negate().subtract(BigInteger.ONE));
            }
            return upper.subtract(upper.mod(lower)).divide(lower);
        }

        boolean isAbove(long x) {
            return floor(PLACES).compareTo(BigInteger.valueOf(x).shiftLeft(PLACES)) > 0;
        }

        public int compareTo(Root other) {
            return floor(PLACES).compareTo(other.floor(PLACES));
        }
    }

    /** c + b x + a x x, where a and b are above 0 if they are the numbers at the highest power. */
    private record Factor(long a, long b, long c) {
        Poly poly() {
            return Poly.of(c, b, a);
        }

        List<Root> roots() {
            List<Root> roots = new ArrayList<>();
            if (a == 0) {
                roots.add(new Root(0, b, c, 0));
            } else if (b * b > 4 * a * c) {
                roots.add(new Root(a, b, c, -1));
                roots.add(new Root(a, b, c, 1));
            }
            return roots;
        }

        /** A root at 0 or hardly off it, or at a half. */
        static Factor nearRoots() {
            return new Factor(0, below(2) == 0 ? 1 + below(2) : 4000 + below(6000), below(3) == 0 ? 0 : about(2));
        }

        static Factor any() {
            if (below(3) > 0) {
                return new Factor(0, 1 + below(below(2) == 0 ? 3 : 60), about(below(2) == 0 ? 20 : 1000));
            }
            while (true) {
                Factor made = new Factor(1 + below(20), about(30), about(60));
                long under = made.b * made.b - 4 * made.a * made.c;
                long side = (long) Math.sqrt(Math.max(under, 0));
                if (side * side != under) {
                    return made;
                }
            }
        }
    }

    private static final class Product {
        Poly poly = Poly.of(below(2) == 0 ? 1 : -2);
        final List<Factor> factors = new ArrayList<>();
        final List<Root> roots = new ArrayList<>();

        /** Of factors made before, or of new ones, some of them again and again; near: many roots hardly differ. */
        Product(int degree, List<Factor> known, boolean near) {
            Factor next = near ? Factor.nearRoots() : Factor.any();
            for (int turn = 0; turn < 30 && poly.degree() < degree; turn++) {
                int kind = below(8);
                if (kind < 2 && !known.isEmpty()) {
                    next = known.get(below(known.size()));
                } else if (kind < 5) {
                    next = near ? Factor.nearRoots() : Factor.any();
                }
                add(next, degree);
            }
            Collections.sort(roots);
        }

        private void add(Factor factor, int degree) {
            Poly both = poly.times(factor.poly());
            for (BigInteger number : both.c) {
                if (number.abs().compareTo(BigInteger.valueOf(LIMIT)) > 0) {
                    return;
                }
            }
            if (both.degree() <= degree) {
                poly = both;
                factors.add(factor);
                roots.addAll(factor.roots());
            }
        }

        int often(Root root) {
            int found = 0;
            for (Root other : roots) {
                found += other.compareTo(root) == 0 ? 1 : 0;
            }
            return found;
        }

        int sign(BigInteger x, int s) {
            int sign = poly.top().signum();
            for (Factor factor : factors) {
                sign *= factor.poly().sign(x, s);
            }
            return sign;
        }

        boolean isWhole() {
            return poly.degree() == roots.size();
        }

        /** The greatest first: r1 >= s1 >= r2 >= s2 and so on. */
        boolean laces(Product q) {
            int less = poly.degree() - q.poly.degree();
            if (!isWhole() || !q.isWhole() || less < 0 || less > 1) {
                return false;
            }
            List<Root> row = new ArrayList<>();
            for (int k = 1; k <= roots.size(); k++) {
                row.add(roots.get(roots.size() - k));
                if (k <= q.roots.size()) {
                    row.add(q.roots.get(q.roots.size() - k));
                }
            }
            for (int k = 1; k < row.size(); k++) {
                if (row.get(k - 1).compareTo(row.get(k)) < 0) {
                    return false;
                }
            }
            return true;
        }

        @Override
        public String toString() {
            return List.of(poly.c).toString();
        }
    }

    public static void main(String[] args) {
        int turns = args.length > 0 ? Integer.parseInt(args[0]) : 800;
        for (int turn = 0; turn < turns; turn++) {
            boolean near = turn % 4 == 0;
            Product p = new Product(below(9), List.of(), near);
            Product q = new Product(Math.max(0, p.poly.degree() - below(2)), p.factors, near);
            RootRows rows = new RootRows();
            put(rows, 2, p);
            put(rows, 3, q);
            counts(rows, p);
            for (int k = 0; k < p.roots.size(); k++) {
                places(rows, p, k);
            }
            check.due("no root behind the last of " + p, rows.root(2, p.roots.size(), 0), RootRows.NO_NUMBER);
            check.due("laced " + p + " " + q, rows.laced(2, 3), p.laces(q) ? 1 : 0);
            check.due("laced " + q + " " + p, rows.laced(3, 2), q.laces(p) ? 1 : 0);
            check.due("chain " + p + " " + q, rows.chain(2, 3), q.laces(p) ? -1 : 2);
            proof(rows, p);
        }
        check.finish("KnownRootsTest");
    }

    private static int below(int n) {
        return random.nextInt(n);
    }

    private static int about(int n) {
        return below(2 * n + 1) - n;
    }

    private static void put(RootRows rows, int tray, Product p) {
        for (int k = 0; k <= 8; k++) {
            check.due("put of " + p, rows.put(tray, k, p.poly.at(k).intValueExact()), true);
        }
    }

    private static void counts(RootRows rows, Product p) {
        int unlike = 0;
        int most = 0;
        for (int k = 0; k < p.roots.size(); k++) {
            unlike += k == 0 || p.roots.get(k).compareTo(p.roots.get(k - 1)) != 0 ? 1 : 0;
            most = Math.max(most, p.often(p.roots.get(k)));
        }
        check.due("DEGREE of " + p, rows.count(2, 0), p.poly.degree());
        check.due("ROOTS of " + p, rows.count(2, 1), p.roots.size());
        check.due("LACK of " + p, rows.count(2, 2), p.poly.degree() - p.roots.size());
        check.due("unlike ROOTS of " + p, rows.count(2, 3), unlike);
        check.due("most often of " + p, rows.count(2, 4), most);
        check.due("WHOLE " + p, rows.count(2, 5), p.isWhole() ? 1 : 0);
    }

    private static void places(RootRows rows, Product p, int k) {
        Root root = p.roots.get(k);
        String told = k + " of " + p;
        check.due("often " + told, rows.often(2, k), p.often(root));
        for (int s = 0; s <= 12; s++) {
            BigInteger floor = root.floor(s);
            check.due("root " + told + " by " + s, rows.root(2, k, s), floor.longValueExact());
            int at = floor.intValueExact() + below(2);
            check.due("sign at " + at + ", " + s + " of " + p, rows.sign(2, at, s), p.sign(BigInteger.valueOf(at), s));
        }
        int near = root.floor(0).intValueExact();
        for (int a = near - 1; a <= near + 1; a++) {
            for (int b = a; b <= a + 2; b++) {
                int due = 0;
                for (Root other : p.roots) {
                    due += other.isAbove(a) && !other.isAbove(b) ? 1 : 0;
                }
                check.due("between " + a + ", " + b + " of " + p, rows.between(2, a, b), due);
            }
        }
    }

    /** A whole number by one above 0. */
    private record Fraction(BigInteger upper, BigInteger lower) {
        static Fraction of(BigInteger upper, BigInteger lower) {
            BigInteger shared = upper.gcd(lower).multiply(BigInteger.valueOf(lower.signum()));
            return new Fraction(upper.divide(shared), lower.divide(shared));
        }

        Fraction lessProduct(Fraction a, Fraction b) {
            BigInteger part = a.lower.multiply(b.lower);
            return of(upper.multiply(part).subtract(a.upper.multiply(b.upper).multiply(lower)), lower.multiply(part));
        }

        Fraction by(Fraction other) {
            return of(upper.multiply(other.lower), lower.multiply(other.upper));
        }
    }

    private static List<Fraction> fractions(Poly p, int sign) {
        List<Fraction> out = new ArrayList<>();
        for (BigInteger number : p.c) {
            out.add(new Fraction(number.multiply(BigInteger.valueOf(sign)), BigInteger.ONE));
        }
        return out;
    }

    /** What one polynomial leaves by another one, with the other sign. */
    private static List<Fraction> left(List<Fraction> over, List<Fraction> under) {
        List<Fraction> rest = new ArrayList<>(over);
        while (rest.size() >= under.size()) {
            Fraction times = rest.get(rest.size() - 1).by(under.get(under.size() - 1));
            int up = rest.size() - under.size();
            for (int k = 0; k < under.size(); k++) {
                rest.set(up + k, rest.get(up + k).lessProduct(times, under.get(k)));
            }
            rest.remove(rest.size() - 1);
        }
        while (!rest.isEmpty() && rest.get(rest.size() - 1).upper.signum() == 0) {
            rest.remove(rest.size() - 1);
        }
        for (int k = 0; k < rest.size(); k++) {
            rest.set(k, new Fraction(rest.get(k).upper.negate(), rest.get(k).lower));
        }
        return rest;
    }

    private static void proof(RootRows rows, Product p) {
        if (p.poly.degree() < 1) {
            check.due("no PROOF of " + p, rows.fails(2), -2);
            check.due("MEMBERS of " + p, rows.count(2, 6), 0);
            return;
        }
        List<Fraction> over = fractions(p.poly, 1);
        List<Fraction> under = fractions(p.poly.slope(), 1);
        int top = over.get(over.size() - 1).upper.signum();
        int fails = -1;
        int members = 1;
        member(rows, p, 0, over);
        while (!under.isEmpty()) {
            member(rows, p, members, under);
            boolean sound = under.size() + 1 == over.size() && under.get(under.size() - 1).upper.signum() == top;
            fails = fails < 0 && !sound ? members : fails;
            members++;
            List<Fraction> next = left(over, under);
            over = under;
            under = next;
        }
        fails = fails < 0 && over.size() > 1 ? members : fails;
        check.due("MEMBERS of " + p, rows.count(2, 6), members);
        check.due("behind the last MEMBER of " + p, rows.member(2, members, 0), -1);
        check.due("fails of " + p, rows.fails(2), fails);
    }

    private static void member(RootRows rows, Product p, int j, List<Fraction> due) {
        check.due("DEGREE of MEMBER " + j + " of " + p, rows.member(2, j, 0), due.size() - 1);
        check.due("sign of MEMBER " + j + " of " + p, rows.member(2, j, 1), due.get(due.size() - 1).upper.signum());
    }
}
