import java.math.BigInteger;
import java.util.Random;

/**
 * Families of polynomials that are hard in some way (roots that fall together or nearly so, gaps in the
 * proof, numbers at the limit), told by a fixed seed: every question about each, held against the model's answer.
 */
public final class FamiliesTest {
    private static final long LIMIT = 100000000;
    private static final Check check = new Check();
    private static final Random random = new Random(77);

    public static void main(String[] args) {
        int size = args.length > 0 ? Integer.parseInt(args[0]) : 1;
        products(150 * size);
        dense(100 * size);
        sparse(100 * size);
        steps(60 * size);
        powers(150 * size);
        nearRoots(40 * size);
        moved(80 * size);
        lacings(300 * size);
        lacedByRule(600 * size);
        shifts(300 * size);
        check.finish("FamiliesTest");
    }

    private static int below(int n) {
        return random.nextInt(n);
    }

    private static int about(int n) {
        return below(2 * n + 1) - n;
    }

    private static boolean fits(Poly p) {
        for (BigInteger number : p.c) {
            if (number.abs().compareTo(BigInteger.valueOf(LIMIT)) > 0) {
                return false;
            }
        }
        return p.degree() <= 8;
    }

    private static String name(Poly p) {
        StringBuilder text = new StringBuilder("[");
        for (BigInteger number : p.c) {
            text.append(' ').append(number);
        }
        return text.append(" ]").toString();
    }

    private static void put(RootRows rows, Model model, int tray, Poly p) {
        for (int k = 0; k <= 8; k++) {
            rows.put(tray, k, p.at(k).intValueExact());
            model.put(tray, k, p.at(k).intValueExact());
        }
    }

    private static void askAll(Poly p) {
        if (!fits(p)) {
            return;
        }
        RootRows rows = new RootRows();
        Model model = new Model();
        put(rows, model, 0, p);
        String of = " of " + name(p);
        for (int what = 0; what <= 7; what++) {
            check.due("count " + what + of, rows.count(0, what), model.count(0, what));
        }
        for (int k = 0; k <= rows.count(0, 1); k++) {
            int s = below(13);
            check.due("root " + k + ", 12" + of, rows.root(0, k, 12), model.root(0, k, 12));
            check.due("root " + k + ", " + s + of, rows.root(0, k, s), model.root(0, k, s));
            check.due("often " + k + of, rows.often(0, k), model.often(0, k));
            int near = (int) Math.max(-2 * LIMIT, rows.root(0, k, 0));
            for (int a = near - 1; a <= near + 1; a++) {
                check.due("between " + a + of, rows.between(0, a, a + 1), model.between(0, a, a + 1));
                check.due("sign at " + a + of, rows.sign(0, a, 0), model.sign(0, a, 0));
            }
            int at = (int) Math.max(-2 * LIMIT, Math.min(2 * LIMIT, rows.root(0, k, 12)));
            check.due("sign at root" + of, rows.sign(0, at, 12), model.sign(0, at, 12));
            check.due("sign above root" + of, rows.sign(0, at + 1, 12), model.sign(0, at + 1, 12));
        }
        for (int j = 0; j <= 10; j++) {
            check.due("member " + j + of, rows.member(0, j, 0), model.member(0, j, 0));
            check.due("sign of member " + j + of, rows.member(0, j, 1), model.member(0, j, 1));
        }
        check.due("fails" + of, rows.fails(0), model.fails(0));
        for (int what = 0; what <= 4; what++) {
            check.due("row " + what + of, rows.row(0, what), model.row(0, what));
        }
        check.due("mean" + of, rows.mean(0, false), model.mean(0, false));
        check.due("lower" + of, rows.mean(0, true), model.mean(0, true));
    }

    private static void askLaced(Poly p, Poly q) {
        if (!fits(p) || !fits(q)) {
            return;
        }
        RootRows rows = new RootRows();
        Model model = new Model();
        put(rows, model, 3, p);
        put(rows, model, 4, q);
        check.due("laced " + name(p) + " " + name(q), rows.laced(3, 4), model.laced(3, 4));
        check.due("laced " + name(q) + " " + name(p), rows.laced(4, 3), model.laced(4, 3));
        check.due("chain " + name(p) + " " + name(q), rows.chain(3, 4), model.chain(3, 4));
    }

    private static Poly linear() {
        return Poly.of(about(12), 1 + below(4));
    }

    /** Linear factors, some of them again, some of degree 2 without roots. */
    private static void products(int n) {
        for (int turn = 0; turn < n; turn++) {
            Poly p = Poly.of(below(2) == 0 ? 1 : -2);
            Poly factor = linear();
            int degree = below(9);
            while (p.degree() < degree) {
                int kind = below(6);
                if (kind == 0) {
                    factor = Poly.of(1 + below(5), about(2), 1 + below(2));
                } else if (kind < 4) {
                    factor = linear();
                }
                if (p.degree() + factor.degree() <= 8) {
                    p = p.times(factor);
                }
            }
            askAll(p);
        }
    }

    private static void dense(int n) {
        int[] sizes = {1, 5, 1000, 100000000};
        for (int turn = 0; turn < n; turn++) {
            int size = sizes[turn % sizes.length];
            long[] c = new long[1 + (turn % 7 == 0 ? below(9) : 8)];
            for (int k = 0; k < c.length; k++) {
                c[k] = turn % 3 == 0 && size > 1 ? (below(2) == 0 ? size : -size) : about(size);
            }
            askAll(Poly.of(c));
        }
    }

    /** Few powers: the proofs have gaps. */
    private static void sparse(int n) {
        for (int turn = 0; turn < n; turn++) {
            long[] c = new long[9];
            int terms = 2 + below(3);
            int size = below(2) == 0 ? 3 : 100000000;
            for (int k = 0; k < terms; k++) {
                c[below(9)] = about(size);
            }
            askAll(Poly.of(c));
            Poly even = Poly.of(about(size), 0, about(size), 0, about(size), 0, about(size), 0, about(size));
            askAll(even);
        }
    }

    /** Powers that are two, three or four apart: the proofs have more than one gap. */
    private static void steps(int n) {
        for (int turn = 0; turn < n; turn++) {
            int step = 2 + below(3);
            int low = below(step);
            int size = new int[] {5, 1000, 100000000}[below(3)];
            long[] c = new long[9];
            for (int k = low; k <= 8; k += step) {
                c[k] = about(size);
            }
            askAll(Poly.of(c));
            if (low > 0) {
                c[low - 1] = about(3);
                askAll(Poly.of(c));
            }
        }
        // gaps where the number at the highest power ahead of the gap does not go into the one behind it
        askAll(Poly.of(0, 0, -1, 0, 0, -9, 0, 0, 2));
        askAll(Poly.of(0, 0, -4, 0, 0, -9, 0, 0, 4));
        askAll(Poly.of(2, 2, 0, 4, 0, -3, -3, 0, 1));
        askAll(Poly.of(0, 1, 5, 8, 3, -1, -3, 0, 1));
        askAll(Poly.of(0, 8, -7, -6, 0, -9, -9, 0, 3));
    }

    /** Squares and more of polynomials with great numbers, times others. */
    private static void powers(int n) {
        for (int turn = 0; turn < n; turn++) {
            int degree = 1 + below(4);
            int size = new int[] {100000000, 4000, 150, 40}[degree - 1];
            long[] c = new long[degree + 1];
            for (int k = 0; k <= degree; k++) {
                c[k] = about(1 + below(size));
            }
            Poly base = Poly.of(c);
            Poly p = base;
            for (int k = 1; k < 8; k++) {
                if (fits(p.times(base)) && below(3) > 0) {
                    p = p.times(base);
                }
            }
            long[] d = {about(1000), about(1000), about(1000), about(1000)};
            Poly other = Poly.of(d);
            askAll(p);
            if (fits(p.times(other))) {
                askAll(p.times(other));
            }
            if (base.degree() == 3) {
                askAll(base.times(base).times(Poly.of(about(5), 1)));
            }
        }
    }

    /** Roots that are nearer to one another than any grid shows, one of them more than once. */
    private static void nearRoots(int n) {
        for (int turn = 0; turn < n; turn++) {
            int a = 2 + below(7069);
            for (int degree = 3; degree <= 8; degree++) {
                long[] c = new long[degree + 1];
                c[degree] = 1;
                Poly near = Poly.of(c).plus(Poly.of(1, -a).times(Poly.of(1, -a)).scaled(-2));
                askAll(near);
                askAll(near.times(Poly.of(0, 0, 1)));
                askAll(near.times(Poly.of(1, 2, 1)));
                askAll(Poly.of(c).plus(Poly.of(a, -1).times(Poly.of(a, -1)).scaled(-1)));
            }
            // b / a nears the root of d from one side, and is there twice or more
            int d = new int[] {2, 3, 5, 7, 11}[below(5)];
            int b = (int) Math.round(a * Math.sqrt(d));
            Poly line = Poly.of(-b, a);
            Poly both = Poly.of(-d, 0, 1).times(line).times(line);
            askAll(both);
            askAll(both.times(Poly.of(0, 1)));
            askAll(both.times(Poly.of(0, 0, 1)));
            // two rational roots apart by about 1 / a a, one of them twice
            int e = 2 + below(400);
            Poly one = Poly.of(-e, e + 1);
            Poly next = Poly.of(-e - 1, e + 2);
            askAll(one.times(one).times(next));
            askAll(one.times(next).times(next));
            askAll(one.times(next).times(next).times(Poly.of(-e + 1, e)));
        }
        long[][] convergents = {{3363, 2378}, {8119, 5741}, {1393, 985}};
        for (long[] pair : convergents) {
            Poly line = Poly.of(-pair[0], pair[1]);
            askAll(Poly.of(-2, 0, 1).times(line).times(line));
        }
        askAll(Poly.of(-9999, 10000).times(Poly.of(-9998, 9999)));
        askAll(Poly.of(-9999, 10000).times(Poly.of(-9999, 10000)));
    }

    /** Polynomials with real roots alone, one number of which is moved a little. */
    private static void moved(int n) {
        for (int turn = 0; turn < n; turn++) {
            Poly p = Poly.of(1);
            int degree = 2 + below(7);
            for (int k = 0; k < degree; k++) {
                p = p.times(Poly.of(1 + below(9), 1));
            }
            askAll(p);
            long[] move = new long[9];
            move[below(degree + 1)] = below(2) == 0 ? 1 : -1;
            askAll(p.plus(Poly.of(move)));
        }
    }

    private static void lacings(int n) {
        for (int turn = 0; turn < n; turn++) {
            Poly p = Poly.of(1 + below(3));
            Poly q = Poly.of(-1 - below(3));
            int degree = below(9);
            int root = 12;
            for (int k = 0; k < degree; k++) {
                root -= below(3);
                p = p.times(Poly.of(-root, 1));
                if (below(12) > 0) {
                    root -= below(3);
                    q = q.times(Poly.of(-root, below(20) == 0 ? 2 : 1));
                }
            }
            askLaced(p, q);
            if (p.degree() > 0) {
                askLaced(p, p.slope());
            }
            askLaced(p, p.plus(q));
            askLaced(p, p.slope().plus(p));
            askLaced(p, q.plus(Poly.of(about(1))));
        }
    }

    /** Roots told as halves in advance: what is due follows from the document's words alone. */
    private static void lacedByRule(int n) {
        for (int turn = 0; turn < n; turn++) {
            int high = below(6);
            int low = Math.max(0, high - below(3) + below(2));
            int[] r = falling(high);
            int[] s = falling(low);
            if (below(2) == 0) {
                for (int k = 0; k < low; k++) {
                    int floor = k + 1 < high ? r[k + 1] : -9;
                    int top = k < high ? r[k] : floor;
                    s[k] = floor + below(top - floor + 1);
                }
                java.util.Arrays.sort(s);
                for (int k = 0; k < low / 2; k++) {
                    int kept = s[k];
                    s[k] = s[low - 1 - k];
                    s[low - 1 - k] = kept;
                }
            }
            boolean so = high - low == 0 || high - low == 1;
            for (int k = 0; k < low && so; k++) {
                so = r[k] >= s[k] && (k + 1 >= high || s[k] >= r[k + 1]);
            }
            Poly p = withHalves(r);
            Poly q = withHalves(s);
            if (fits(p) && fits(q)) {
                RootRows rows = new RootRows();
                Model model = new Model();
                put(rows, model, 0, p);
                put(rows, model, 1, q);
                check.due("laced by rule " + name(p) + " " + name(q), rows.laced(0, 1), so ? 1 : 0);
            }
        }
    }

    private static int[] falling(int n) {
        int[] roots = new int[n];
        for (int k = 0; k < n; k++) {
            roots[k] = about(9);
        }
        java.util.Arrays.sort(roots);
        for (int k = 0; k < n / 2; k++) {
            int kept = roots[k];
            roots[k] = roots[n - 1 - k];
            roots[n - 1 - k] = kept;
        }
        return roots;
    }

    private static Poly withHalves(int[] halves) {
        Poly p = Poly.of(below(2) == 0 ? 1 : -3);
        for (int half : halves) {
            p = p.times(half % 2 == 0 ? Poly.of(-half / 2, 1) : Poly.of(-half, 2));
        }
        return p;
    }

    /** p at x + a, where the numbers on the way are far greater than those at the end. */
    private static void shifts(int n) {
        for (int turn = 0; turn < n; turn++) {
            int a = below(2) == 0 ? about(1000) : about(12);
            Poly p = Poly.of(about(3), about(3));
            int degree = below(9);
            while (p.degree() >= 0 && p.degree() < degree && fits(p.times(Poly.of(about(10) - a, 1)))) {
                p = p.times(Poly.of(about(10) - a, 1));
            }
            if (!fits(p)) {
                continue;
            }
            RootRows rows = new RootRows();
            Model model = new Model();
            put(rows, model, 0, p);
            for (int by : new int[] {-a, a, -a - 1, 1, 1000, -1000}) {
                boolean due = model.operate(1, 0, 4, by);
                check.due("shift by " + by + " " + name(p), rows.operate(1, 0, 4, by), due);
                for (int k = 0; k <= 8; k++) {
                    check.due("c" + k + " shifted by " + by + " " + name(p), rows.number(1, k), model.number(1, k));
                }
            }
        }
    }
}
