/**
 * Terms 1 (ROOTS, LACK, WHOLE) and the promises 11 to 15 at their boundaries: each sentence of the document that names
 * one is quoted above its test, which looks at it, just inside and just beyond.
 */
public final class RootEdgesTest {
    private static final Check check = new Check();
    private static final int LIMIT = 100000000;
    private static final long NO = RootRows.NO_NUMBER;
    private static final int LEAST = Integer.MIN_VALUE;
    private static final int GREATEST = Integer.MAX_VALUE;
    private static final int[] NO_TRAYS = {LEAST, -9, -8, -1, 8, 9, 15, 16, 256, GREATEST};
    private static final int[] NO_FINENESS = {LEAST, -12, -1, 13, 14, 24, 32, 44, 64, 256, GREATEST};
    /** 4096 times 24414: the greatest number of that kind within the limit. */
    private static final int FINE = 99999744;

    public static void main(String[] args) {
        countArguments();
        countOfZero();
        countOfNumbers();
        countWithoutRoots();
        countTwiceOrNot();
        countMostIsReal();
        countWhole();
        countMembers();
        countCounts();
        rootArguments();
        rootNumbers();
        rootOnTheGrid();
        rootBesideTheGrid();
        rootFarthest();
        oftenArguments();
        oftenNear();
        oftenVeryNear();
        fewerThanBefore();
        betweenArguments();
        betweenEdges();
        betweenBeside();
        betweenFar();
        signArguments();
        signEdges();
        signFar();
        questionsChangeNothing();
        check.finish("RootEdgesTest");
    }

    private static RootRows of(int tray, long... numbers) {
        RootRows rows = new RootRows();
        put(rows, tray, numbers);
        return rows;
    }

    private static void put(RootRows rows, int tray, long... numbers) {
        for (int k = 0; k <= 8; k++) {
            check.due("put", rows.put(tray, k, k < numbers.length ? (int) numbers[k] : 0), true);
        }
    }

    private static String name(long... numbers) {
        return java.util.Arrays.toString(numbers);
    }

    private static long[] at(int power, long... numbers) {
        long[] row = new long[9];
        System.arraycopy(numbers, 0, row, power, numbers.length);
        return row;
    }

    // ---- Promise 11

    private static void dueCount(int what, int due, long... numbers) {
        for (int tray = 0; tray <= 7; tray += 7) {
            check.due("count " + what + " of " + name(numbers), of(tray, numbers).count(tray, what), due);
        }
    }

    /** "NONE: there is none such, another what." */
    private static void countArguments() {
        int[] others = {LEAST, -8, -2, -1, 8, 9, 15, 16, 256, GREATEST};
        for (int tray = 0; tray <= 7; tray++) {
            RootRows rows = of(tray, 0, 1);
            int[] due = {1, 1, 0, 1, 1, 1, 2, 1};
            for (int what = 0; what <= 7; what++) {
                check.due("count(" + tray + ", " + what + ")", rows.count(tray, what), due[what]);
            }
            for (int what : others) {
                check.due("count(" + tray + ", " + what + ")", rows.count(tray, what), -1);
                check.due("count of 0, what " + what, rows.count((tray + 1) % 8, what), -1);
            }
            for (int none : NO_TRAYS) {
                for (int what = -1; what <= 8; what++) {
                    check.due("count(" + none + ", " + what + ")", rows.count(none, what), -1);
                }
            }
        }
    }

    /** "DEGREE (NONE)", "ROOTS .. (of the POLYNOMIAL 0: none)", "LACK (NONE of 0)", "(0 without)". */
    private static void countOfZero() {
        int[] due = {-1, 0, -1, 0, 0, 0, 0, 1};
        for (int what = 0; what <= 7; what++) {
            dueCount(what, due[what]);
        }
        RootRows rows = of(4, 0, 0, 0, 0, 0, 0, 0, 0, 1);
        check.due("ahead of it", rows.count(4, 1), 8);
        rows.put(4, 8, 0);
        for (int what = 0; what <= 7; what++) {
            check.due("0 again, what " + what, rows.count(4, what), due[what]);
        }
    }

    /** "WHOLE is a POLYNOMIAL that is not 0 with LACK 0": one of DEGREE 0 is. */
    private static void countOfNumbers() {
        long[] numbers = {1, -1, LIMIT, -LIMIT};
        for (long number : numbers) {
            int[] due = {0, 0, 0, 0, 0, 1, 0, number > 0 ? 1 : 0};
            for (int what = 0; what <= 7; what++) {
                dueCount(what, due[what], number);
            }
        }
    }

    /** "how often the one is that is most often (0 without)". */
    private static void countWithoutRoots() {
        for (int n = 2; n <= 8; n += 2) {
            long[] p = at(n, 1);
            p[0] = 1;
            dueCount(1, 0, p);
            dueCount(2, n, p);
            dueCount(3, 0, p);
            dueCount(4, 0, p);
            dueCount(5, 0, p);
            p[0] = 0;
            dueCount(1, n, p);
            dueCount(2, 0, p);
            dueCount(3, 1, p);
            dueCount(4, n, p);
            dueCount(5, 1, p);
            p[0] = -1;
            dueCount(1, 2, p);
            dueCount(2, n - 2, p);
            dueCount(3, 2, p);
            dueCount(4, 1, p);
            dueCount(5, n == 2 ? 1 : 0, p);
        }
        for (int n = 1; n <= 7; n += 2) {
            for (int c0 = -1; c0 <= 1; c0 += 2) {
                long[] p = at(n, 1);
                p[0] = c0;
                dueCount(1, 1, p);
                dueCount(2, n - 1, p);
                dueCount(4, 1, p);
            }
        }
    }

    /** Two roots, one twice, none: b b less 4 a c is above 0, 0, below 0, with numbers at the limit. */
    private static void countTwiceOrNot() {
        long[][] twice = {{1, 2, 1}, {1, -2, 1}, {25000000, LIMIT, LIMIT}, {LIMIT, -LIMIT, 25000000},
            {-LIMIT, LIMIT, -25000000}};
        for (long[] p : twice) {
            long way = p[2] > 0 ? 1 : -1;
            dueCount(1, 2, p);
            dueCount(3, 1, p);
            dueCount(4, 2, p);
            dueCount(5, 1, p);
            long[] two = {p[0] - way, p[1], p[2]};
            dueCount(1, 2, two);
            dueCount(3, 2, two);
            dueCount(4, 1, two);
            dueCount(5, 1, two);
            if (Math.abs(p[0] + way) <= LIMIT) {
                long[] none = {p[0] + way, p[1], p[2]};
                dueCount(1, 0, none);
                dueCount(2, 2, none);
                dueCount(3, 0, none);
                dueCount(4, 0, none);
                dueCount(5, 0, none);
            }
        }
        // (7071 x - 7070)^2, and each of its numbers one more and one less
        long[] square = {49984900, -99983940, 49999041};
        dueCount(1, 2, square);
        dueCount(3, 1, square);
        for (int k = 0; k <= 2; k++) {
            for (int off = -1; off <= 1; off += 2) {
                long[] p = square.clone();
                p[k] += off;
                dueCount(1, off > 0 ? 0 : 2, p);
                dueCount(3, off > 0 ? 0 : 2, p);
                dueCount(4, off > 0 ? 0 : 1, p);
            }
        }
    }

    /** Only real ROOTS count: (x x + 1)^3 (x - 1)^2 has its real one twice. */
    private static void countMostIsReal() {
        long[] p = {1, -2, 4, -6, 6, -6, 4, -2, 1};
        dueCount(0, 8, p);
        dueCount(1, 2, p);
        dueCount(2, 6, p);
        dueCount(3, 1, p);
        dueCount(4, 2, p);
        dueCount(5, 0, p);
        // (x x + 1)^4
        long[] none = {1, 0, 4, 0, 6, 0, 4, 0, 1};
        dueCount(1, 0, none);
        dueCount(4, 0, none);
        // (x x + 1)^3 (x x - 1)
        long[] once = {-1, 0, -2, 0, 0, 0, 2, 0, 1};
        dueCount(1, 2, once);
        dueCount(4, 1, once);
        for (int n = 1; n <= 8; n++) {
            dueCount(4, n, at(n, -3));
            dueCount(3, 1, at(n, -3));
        }
    }

    /** LACK is 0, 2, 4, 6, 8: (x x - 1) and (x x + 1), so often each. */
    private static void countWhole() {
        long[][] rows = {{1, 0, -4, 0, 6, 0, -4, 0, 1}, {-1, 0, 2, 0, 0, 0, -2, 0, 1}, {1, 0, 0, 0, -2, 0, 0, 0, 1},
            {-1, 0, -2, 0, 0, 0, 2, 0, 1}, {1, 0, 4, 0, 6, 0, 4, 0, 1}};
        for (int k = 0; k <= 4; k++) {
            dueCount(1, 8 - 2 * k, rows[k]);
            dueCount(2, 2 * k, rows[k]);
            dueCount(3, k == 4 ? 0 : 2, rows[k]);
            dueCount(4, 4 - k, rows[k]);
            dueCount(5, k == 0 ? 1 : 0, rows[k]);
        }
    }

    /** "MEMBERS of its PROOF (0 below DEGREE 1)". */
    private static void countMembers() {
        dueCount(6, 0);
        dueCount(6, 0, 7);
        dueCount(6, 0, -LIMIT);
        dueCount(6, 2, 0, 1);
        dueCount(6, 2, LIMIT, -LIMIT);
        for (int n = 2; n <= 8; n++) {
            dueCount(6, 2, at(n, 1));
            long[] p = at(n, 1);
            p[0] = 1;
            dueCount(6, 3, p);
        }
        dueCount(6, 9, 105, 0, -420, 0, 210, 0, -28, 0, 1);
    }

    /** "COUNTS, if none is below 0". */
    private static void countCounts() {
        dueCount(7, 1, 0, 0, 0, 0, 0, 0, 0, 0, LIMIT);
        dueCount(7, 1, LIMIT, LIMIT, LIMIT, LIMIT, LIMIT, LIMIT, LIMIT, LIMIT, LIMIT);
        for (int k = 0; k <= 8; k++) {
            dueCount(7, 1, at(k, 1));
            dueCount(7, 0, at(k, -1));
            long[] p = {9, 9, 9, 9, 9, 9, 9, 9, 9};
            dueCount(7, 1, p);
            p[k] = 0;
            dueCount(7, 1, p);
            p[k] = -1;
            dueCount(7, 0, p);
            p[k] = -LIMIT;
            dueCount(7, 0, p);
        }
    }

    // ---- Promise 12

    /** "NO_NUMBER: there are none such": no such TRAY, k, s. */
    private static void rootArguments() {
        for (int tray = 0; tray <= 7; tray++) {
            RootRows rows = of(tray, -9, 0, 4);
            for (int s = 0; s <= 12; s++) {
                check.due("root(" + tray + ", 0, " + s + ")", rows.root(tray, 0, s), s == 0 ? -2 : -3L << (s - 1));
                check.due("root(" + tray + ", 1, " + s + ")", rows.root(tray, 1, s), s == 0 ? 1 : 3L << (s - 1));
                for (int k : new int[] {LEAST, -2, -1, 2, 3, 8, 256, GREATEST}) {
                    check.due("root(" + tray + ", " + k + ", " + s + ")", rows.root(tray, k, s), NO);
                }
                check.due("root of 0", rows.root((tray + 1) % 8, 0, s), NO);
            }
            for (int s : NO_FINENESS) {
                check.due("root(" + tray + ", 0, " + s + ")", rows.root(tray, 0, s), NO);
                check.due("root of 0, s " + s, rows.root((tray + 1) % 8, 0, s), NO);
            }
            for (int none : NO_TRAYS) {
                check.due("root(" + none + ", 0, 0)", rows.root(none, 0, 0), NO);
                check.due("root(" + none + ", 0, 12)", rows.root(none, 0, 12), NO);
            }
        }
        for (long number : new long[] {1, -1, LIMIT, -LIMIT}) {
            check.due("root of a number", of(0, number).root(0, 0, 0), NO);
        }
        check.due("root of x x + 1", of(0, 1, 0, 1).root(0, 0, 12), NO);
    }

    /** "each as often as it is one, rising, numbered from 0 on". */
    private static void rootNumbers() {
        // x^3 (x + 2)^2 (x - 1)^2 (x - 3)
        long[] due = {-2, -2, 0, 0, 0, 1, 1, 3};
        RootRows rows = new RootRows();
        put(rows, 0, 1);
        for (long root : due) {
            check.due("times x less " + root, rows.operate(0, 0, 3, (int) -root), true);
        }
        check.due("c3", rows.number(0, 3), -12);
        for (int s = 0; s <= 12; s++) {
            check.due("root -1", rows.root(0, -1, s), NO);
            for (int k = 0; k < due.length; k++) {
                check.due("root " + k + ", s " + s, rows.root(0, k, s), due[k] << s);
            }
            check.due("root 8", rows.root(0, 8, s), NO);
        }
        for (int n = 1; n <= 8; n++) {
            RootRows zero = of(0, at(n, LIMIT));
            check.due("first of x^" + n, zero.root(0, 0, 12), 0);
            check.due("last of x^" + n, zero.root(0, n - 1, 12), 0);
            check.due("behind it of x^" + n, zero.root(0, n, 12), NO);
        }
    }

    private static void dueOnly(long due12, long... numbers) {
        RootRows rows = of(7, numbers);
        for (int s = 0; s <= 12; s++) {
            check.due("root of " + name(numbers) + ", s " + s, rows.root(7, 0, s), Math.floorDiv(due12, 1L << (12 - s)));
        }
    }

    /** "The greatest whole number that is not above the k-th ROOT times 2 to the power of s": one that it is. */
    private static void rootOnTheGrid() {
        long[] parts = {-LIMIT, -8193, -8192, -8191, -4097, -4096, -4095, -2049, -2048, -3, -2, -1, 0, 1, 2, 3, 2047, 2048,
            4095, 4096, 4097, 8191, 8192, LIMIT};
        for (long m : parts) {
            dueOnly(m, -m, 4096);
            dueOnly(m, m, -4096);
            dueOnly(4096 * m, -m, 1);
            dueOnly(2 * m, -m, 2048);
        }
    }

    /** .. and those just above and just below one. */
    private static void rootBesideTheGrid() {
        long[] parts = {-4095, -2048, -2, -1, 0, 1, 2, 2048, 4095};
        for (long m : parts) {
            long upper = 24414 * m;
            dueOnly(m, -upper, FINE);
            dueOnly(m, -upper - 1, FINE);
            dueOnly(m - 1, -upper + 1, FINE);
            dueOnly(m, upper + 1, -FINE);
            dueOnly(m - 1, upper - 1, -FINE);
        }
        dueOnly(0, -1, LIMIT);
        dueOnly(-1, 1, LIMIT);
        dueOnly(4096, -LIMIT, LIMIT);
        dueOnly(4096, -LIMIT, LIMIT - 1);
        dueOnly(4095, 1 - LIMIT, LIMIT);
        dueOnly(-4096, LIMIT, LIMIT);
        dueOnly(-4097, LIMIT, LIMIT - 1);
        dueOnly(-4096, LIMIT - 1, LIMIT);
        // the root of 1/100000000, and the same of other powers: 0.1, 0.01 and their like lie between two parts
        RootRows rows = of(0, -1, 0, LIMIT);
        check.due("-1/10000", rows.root(0, 0, 12), -1);
        check.due("1/10000", rows.root(0, 1, 12), 0);
        put(rows, 0, -1, 0, 0, 0, 0, 0, 0, 0, LIMIT);
        check.due("-1/10", rows.root(0, 0, 12), -410);
        check.due("1/10", rows.root(0, 1, 12), 409);
        put(rows, 0, -LIMIT, 0, 0, 0, 0, 0, 0, 0, 1);
        for (int s = 0; s <= 12; s++) {
            check.due("-10, s " + s, rows.root(0, 0, s), -10L << s);
            check.due("10, s " + s, rows.root(0, 1, s), 10L << s);
        }
        put(rows, 0, 1 - LIMIT, 0, 0, 0, 0, 0, 0, 0, 1);
        check.due("just above -10", rows.root(0, 0, 12), -40960);
        check.due("just below 10", rows.root(0, 1, 12), 40959);
    }

    /** No root is as far as 100000001 from 0; these are as far as can be. */
    private static void rootFarthest() {
        dueOnly(4096L * LIMIT, -LIMIT, 1);
        dueOnly(-4096L * LIMIT, LIMIT, 1);
        for (int n = 2; n <= 8; n++) {
            long[] high = new long[9];
            long[] low = new long[9];
            for (int k = 0; k < n; k++) {
                high[k] = -LIMIT;
                low[k] = (n - k) % 2 == 0 ? -LIMIT : LIMIT;
            }
            high[n] = 1;
            low[n] = 1;
            RootRows rows = of(0, high);
            int last = rows.count(0, 1) - 1;
            RootRows turned = of(0, low);
            check.due("as many turned round", turned.count(0, 1), last + 1);
            for (int s = 0; s <= 12; s++) {
                check.due("greatest of degree " + n, rows.root(0, last, s), ((LIMIT + 1L) << s) - 1);
                check.due("least of degree " + n, turned.root(0, 0, s), -(LIMIT + 1L) << s);
            }
            check.due("between up to it", rows.between(0, LIMIT, LIMIT + 1), 1);
            check.due("between down to it", turned.between(0, -LIMIT - 1, -LIMIT), 1);
            check.due("none beyond", rows.between(0, LIMIT + 1, GREATEST), 0);
            check.due("none beyond, turned round", turned.between(0, LEAST, -LIMIT - 1), 0);
        }
    }

    // ---- Promise 13

    /** "How often the k-th ROOT is one. NONE: there are none such." */
    private static void oftenArguments() {
        for (int tray = 0; tray <= 7; tray++) {
            for (int n = 0; n <= 8; n++) {
                RootRows rows = of(tray, at(n, 5));
                for (int k = 0; k < n; k++) {
                    check.due("often(" + tray + ", " + k + ") of x^" + n, rows.often(tray, k), n);
                }
                for (int k : new int[] {LEAST, -2, -1, n, n + 1, 8, 9, GREATEST}) {
                    check.due("often(" + tray + ", " + k + ") of x^" + n, rows.often(tray, k), -1);
                }
                check.due("often of 0", rows.often((tray + 1) % 8, 0), -1);
                for (int none : NO_TRAYS) {
                    check.due("often(" + none + ", 0)", rows.often(none, 0), -1);
                }
            }
        }
        check.due("often of x x + 1", of(0, 1, 0, 1).often(0, 0), -1);
        // (x x + 1)^3 (x - 1)^2
        RootRows rows = of(0, 1, -2, 4, -6, 6, -6, 4, -2, 1);
        check.due("not as often as one that is not real", rows.often(0, 0), 2);
        check.due("the same again", rows.often(0, 1), 2);
        check.due("none behind", rows.often(0, 2), -1);
    }

    /** Roots apart by less than a part of the grid do not count for one another. */
    private static void oftenNear() {
        // (100 x - 99)^a (99 x - 98)^b: apart by 1/9900
        for (int a = 0; a <= 3; a++) {
            for (int b = 0; a + b <= 3; b++) {
                String of = " of " + a + " and " + b;
                RootRows rows = new RootRows();
                put(rows, 0, 1);
                put(rows, 1, -99, 100);
                put(rows, 2, -98, 99);
                for (int k = 0; k < a + b; k++) {
                    check.due("times", rows.times(0, 0, k < a ? 1 : 2), true);
                }
                for (int k = 0; k < a + b; k++) {
                    check.due("often " + k + of, rows.often(0, k), k < b ? b : a);
                }
                check.due("unlike" + of, rows.count(0, 3), Math.min(a, 1) + Math.min(b, 1));
                check.due("most" + of, rows.count(0, 4), Math.max(a, b));
            }
        }
        // (7071 x - 7070) (7070 x - 7069): apart by about 1/50000000
        RootRows rows = of(0, 49977830, -99969799, 49991970);
        check.due("unlike", rows.count(0, 3), 2);
        check.due("lower", rows.often(0, 0), 1);
        check.due("higher", rows.often(0, 1), 1);
        check.due("the same place", rows.root(0, 0, 12), rows.root(0, 1, 12));
        check.due("which is", rows.root(0, 1, 12), 4095);
    }

    /** a / b nears the root of 2, from above where a a - 2 b b is 1, from below where it is -1. */
    private static final int[][] NEAR = {{99, 70, 1}, {239, 169, -1}, {577, 408, 1}, {1393, 985, -1}, {3363, 2378, 1},
        {8119, 5741, -1}, {19601, 13860, 1}, {114243, 80782, 1}, {275807, 195025, -1}, {665857, 470832, 1},
        {1607521, 1136689, -1}, {3880899, 2744210, 1}, {9369319, 6625109, -1}, {22619537, 15994428, 1}};

    /** .. and at the root of 2 down to 10^-15 from it: (x x - 2)^m (b x - a)^j. */
    private static void oftenVeryNear() {
        for (int[] near : NEAR) {
            for (int m = 1; m <= 3; m++) {
                for (int j = 1; j <= 3 && 2 * m + j <= 8; j++) {
                    RootRows rows = of(1, -2, 0, 1);
                    put(rows, 2, -near[0], near[1]);
                    put(rows, 0, 1);
                    boolean fits = true;
                    for (int k = 0; k < m + j; k++) {
                        fits &= rows.times(0, 0, k < m ? 1 : 2);
                    }
                    if (fits) {
                        dueVeryNear(rows, m, j, near[2] > 0, near[0] + " / " + near[1]);
                        dueMirrored(rows, m, j, near[2] > 0, near[0] + " / " + near[1]);
                    }
                }
            }
        }
    }

    private static void dueVeryNear(RootRows rows, int m, int j, boolean above, String name) {
        String of = " of " + m + " and " + j + " times " + name;
        check.due("roots" + of, rows.count(0, 1), 2 * m + j);
        check.due("unlike" + of, rows.count(0, 3), 3);
        check.due("most" + of, rows.count(0, 4), Math.max(m, j));
        int ahead = above ? m : j;
        int behind = above ? j : m;
        for (int k = 0; k < 2 * m + j; k++) {
            int due = k < m ? m : k < m + ahead ? ahead : behind;
            check.due("often " + k + of, rows.often(0, k), due);
            if (k >= m) {
                check.due("root " + k + of, rows.root(0, k, 8), 362);
            }
        }
        check.due("behind the last" + of, rows.often(0, 2 * m + j), -1);
    }

    /** The same with x turned round, right behind a question about eight roots that are far from one another. */
    private static void dueMirrored(RootRows rows, int m, int j, boolean above, String name) {
        String of = " mirrored, of " + m + " and " + j + " times " + name;
        put(rows, 3, 1);
        for (int k = 0; k < 8; k++) {
            check.due("eight roots", rows.operate(3, 3, 3, k - 4), true);
        }
        check.due("the last of eight", rows.often(3, 7), 1);
        check.due("mirror", rows.operate(0, 0, 6, -1), true);
        int first = above ? j : m;
        for (int k = 0; k < 2 * m + j; k++) {
            int due = k < first ? first : k < m + j ? m + j - first : m;
            check.due("often " + k + of, rows.often(0, k), due);
            check.due("root " + k + of, rows.root(0, k, 8), k < m + j ? -363 : 362);
        }
        check.due("behind the last" + of, rows.often(0, 2 * m + j), -1);
    }

    /** A tray that had more roots before has none of them left. */
    private static void fewerThanBefore() {
        for (int n = 0; n <= 7; n++) {
            RootRows rows = new RootRows();
            put(rows, 0, 1);
            for (int k = 0; k < 8; k++) {
                check.due("eight unlike roots", rows.operate(0, 0, 3, k - 4), true);
            }
            check.due("the last of eight", rows.root(0, 7, 0), 4);
            check.due("the last of eight, often", rows.often(0, 7), 1);
            check.due("between all eight", rows.between(0, -4, 4), 8);
            put(rows, 0, 1);
            for (int k = 0; k < n; k++) {
                rows.operate(0, 0, 3, k - 4);
            }
            check.due("behind the last of " + n, rows.root(0, n, 0), NO);
            check.due("behind the last of " + n + ", often", rows.often(0, n), -1);
            check.due("the last of " + n, rows.root(0, n - 1, 0), n == 0 ? NO : 4);
            check.due("between all of " + n, rows.between(0, -4, 4), n);
            check.due("roots of " + n, rows.count(0, 1), n);
        }
    }

    // ---- Promise 14

    /** "NONE: there is none such, a is above b." */
    private static void betweenArguments() {
        int[][] wrong = {{1, 0}, {0, -1}, {GREATEST, LEAST}, {GREATEST, GREATEST - 1}, {LEAST + 1, LEAST}, {5, -5}};
        int[][] same = {{0, 0}, {-1, -1}, {1, 1}, {LEAST, LEAST}, {GREATEST, GREATEST}};
        for (int tray = 0; tray <= 7; tray++) {
            RootRows rows = of(tray, 0, 1);
            for (int[] c : wrong) {
                check.due("between " + c[0] + ", " + c[1], rows.between(tray, c[0], c[1]), -1);
                check.due("between of 0", rows.between((tray + 1) % 8, c[0], c[1]), -1);
            }
            for (int[] c : same) {
                check.due("between " + c[0] + ", " + c[1], rows.between(tray, c[0], c[1]), 0);
                check.due("between of 0", rows.between((tray + 1) % 8, c[0], c[1]), 0);
            }
            check.due("between of 0, all", rows.between((tray + 1) % 8, LEAST, GREATEST), 0);
            check.due("between", rows.between(tray, -1, 0), 1);
            check.due("between, beside", rows.between(tray, 0, 1), 0);
            for (int none : NO_TRAYS) {
                check.due("between(" + none + ")", rows.between(none, -1, 0), -1);
                check.due("between(" + none + "), none", rows.between(none, 0, 0), -1);
            }
        }
        check.due("between of a number", of(0, 5).between(0, LEAST, GREATEST), 0);
        check.due("between of x x + 1", of(0, 1, 0, 1).between(0, LEAST, GREATEST), 0);
    }

    /** "above a and not above b": a ROOT that is a does not count, one that is b does, as often as it is one. */
    private static void betweenEdges() {
        for (int n = 1; n <= 8; n++) {
            for (int root = -2; root <= 2; root++) {
                RootRows rows = new RootRows();
                put(rows, 0, 1);
                for (int k = 0; k < n; k++) {
                    rows.operate(0, 0, 3, -root);
                }
                for (int a = root - 2; a <= root + 2; a++) {
                    for (int b = root - 2; b <= root + 2; b++) {
                        int due = a > b ? -1 : a < root && root <= b ? n : 0;
                        check.due("between " + a + ", " + b + " of " + root + ", " + n, rows.between(0, a, b), due);
                    }
                }
            }
        }
    }

    /** ROOTS that are hardly above or below a whole number. */
    private static void betweenBeside() {
        RootRows rows = of(0, -1, LIMIT);
        check.due("just above 0: up to 0", rows.between(0, -1, 0), 0);
        check.due("just above 0: from 0", rows.between(0, 0, 1), 1);
        put(rows, 0, 1, LIMIT);
        check.due("just below 0: up to 0", rows.between(0, -1, 0), 1);
        check.due("just below 0: from 0", rows.between(0, 0, 1), 0);
        put(rows, 0, -LIMIT, LIMIT - 1);
        check.due("just above 1: up to 1", rows.between(0, 0, 1), 0);
        check.due("just above 1: from 1", rows.between(0, 1, 2), 1);
        put(rows, 0, 1 - LIMIT, LIMIT);
        check.due("just below 1: up to 1", rows.between(0, 0, 1), 1);
        check.due("just below 1: from 1", rows.between(0, 1, 2), 0);
        put(rows, 0, 1 - LIMIT, 0, 0, 0, 0, 0, 0, 0, 1);
        check.due("just below 10: up to 10", rows.between(0, 9, 10), 1);
        check.due("just above -10: up to -10", rows.between(0, -11, -10), 0);
        check.due("just above -10: from -10", rows.between(0, -10, -9), 1);
        check.due("both", rows.between(0, -10, 10), 2);
    }

    /** a and b may be any numbers. */
    private static void betweenFar() {
        RootRows rows = of(0, -LIMIT, 1);
        check.due("up to it", rows.between(0, LEAST, LIMIT), 1);
        check.due("up to below it", rows.between(0, LEAST, LIMIT - 1), 0);
        check.due("from it", rows.between(0, LIMIT, GREATEST), 0);
        check.due("from below it", rows.between(0, LIMIT - 1, GREATEST), 1);
        put(rows, 0, LIMIT, 1);
        check.due("up to -100000000", rows.between(0, LEAST, -LIMIT), 1);
        check.due("up to below -100000000", rows.between(0, LEAST, -LIMIT - 1), 0);
        check.due("from -100000000", rows.between(0, -LIMIT, GREATEST), 0);
        check.due("from below -100000000", rows.between(0, -LIMIT - 1, GREATEST), 1);
        put(rows, 0, 0, 0, 0, 0, 0, 0, 0, 0, 1);
        check.due("all", rows.between(0, LEAST, GREATEST), 8);
        check.due("above", rows.between(0, 0, GREATEST), 0);
        check.due("below", rows.between(0, LEAST, -1), 0);
        check.due("from -1", rows.between(0, -1, GREATEST), 8);
        check.due("up to 0", rows.between(0, LEAST, 0), 8);
    }

    // ---- Promise 15

    /** "-2: there are none such": no such TRAY, s. */
    private static void signArguments() {
        for (int tray = 0; tray <= 7; tray++) {
            RootRows rows = of(tray, -1, 1);
            for (int s = 0; s <= 12; s++) {
                check.due("at 1, s " + s, rows.sign(tray, 1 << s, s), 0);
                check.due("above 1, s " + s, rows.sign(tray, (1 << s) + 1, s), 1);
                check.due("below 1, s " + s, rows.sign(tray, (1 << s) - 1, s), -1);
                check.due("of 0", rows.sign((tray + 1) % 8, 7, s), 0);
                check.due("of 0, least", rows.sign((tray + 1) % 8, LEAST, s), 0);
            }
            for (int s : NO_FINENESS) {
                check.due("sign, s " + s, rows.sign(tray, 1, s), -2);
                check.due("sign of 0, s " + s, rows.sign((tray + 1) % 8, 1, s), -2);
            }
            for (int none : NO_TRAYS) {
                check.due("sign(" + none + ")", rows.sign(none, 1, 0), -2);
                check.due("sign(" + none + "), s 12", rows.sign(none, 1, 12), -2);
            }
        }
        for (int s = 0; s <= 12; s++) {
            check.due("of a number", of(0, 1).sign(0, LEAST, s), 1);
            check.due("of a number below 0", of(0, -LIMIT).sign(0, GREATEST, s), -1);
        }
    }

    /** "below 0, 0, above 0 at x by 2 to the power of s". */
    private static void signEdges() {
        for (int n = 1; n <= 8; n++) {
            RootRows rows = new RootRows();
            put(rows, 0, 1);
            for (int k = 0; k < n; k++) {
                rows.operate(0, 0, 3, -3);
            }
            for (int s = 0; s <= 12; s++) {
                int even = n % 2 == 0 ? 1 : -1;
                check.due("at 3, " + n, rows.sign(0, 3 << s, s), 0);
                check.due("above 3, " + n, rows.sign(0, (3 << s) + 1, s), 1);
                check.due("below 3, " + n, rows.sign(0, (3 << s) - 1, s), even);
                check.due("at -3, " + n, rows.sign(0, -3 << s, s), even);
            }
        }
        RootRows rows = of(0, -1, 0, 4);
        check.due("at 1/2", rows.sign(0, 1, 1), 0);
        check.due("at -1/2", rows.sign(0, -1, 1), 0);
        check.due("at 1/2, s 12", rows.sign(0, 2048, 12), 0);
        check.due("beside it", rows.sign(0, 2049, 12), 1);
        check.due("beside it, within", rows.sign(0, 2047, 12), -1);
        check.due("beside -1/2", rows.sign(0, -2049, 12), 1);
        check.due("beside -1/2, within", rows.sign(0, -2047, 12), -1);
        check.due("at 1/4", rows.sign(0, 1, 2), -1);
        // the first and the last number all but make up for one another
        put(rows, 0, -1, 0, 0, 0, 0, 0, 0, 0, LIMIT);
        check.due("410 parts", rows.sign(0, 410, 12), 1);
        check.due("409 parts", rows.sign(0, 409, 12), -1);
        put(rows, 0, -LIMIT, FINE);
        check.due("4096 parts", rows.sign(0, 4096, 12), -1);
        check.due("4097 parts", rows.sign(0, 4097, 12), 1);
    }

    /** x may be any number: nothing comes round. */
    private static void signFar() {
        for (int n = 1; n <= 8; n++) {
            for (int v : new int[] {1, -1, LIMIT, -LIMIT}) {
                RootRows rows = of(0, at(n, v));
                int above = v > 0 ? 1 : -1;
                int below = n % 2 == 0 ? above : -above;
                for (int s = 0; s <= 12; s += 4) {
                    for (int shift = 0; shift <= 30; shift += 2) {
                        check.due(v + "x^" + n + " at 2^" + shift, rows.sign(0, 1 << shift, s), above);
                        check.due(v + "x^" + n + " at -2^" + shift, rows.sign(0, -1 << shift, s), below);
                    }
                    check.due("greatest", rows.sign(0, GREATEST, s), above);
                    check.due("least", rows.sign(0, LEAST, s), below);
                    check.due("at 0", rows.sign(0, 0, s), 0);
                }
            }
        }
        RootRows rows = of(0, 0, -65536, 0, 0, 0, 0, 0, 1);
        check.due("x^7 less 65536 x at 2^16", rows.sign(0, 65536, 0), 1);
        put(rows, 0, -LIMIT, -LIMIT, -LIMIT, -LIMIT, -LIMIT, -LIMIT, -LIMIT, -LIMIT, 1);
        check.due("at 100000000", rows.sign(0, LIMIT, 0), -1);
        check.due("at 100000001", rows.sign(0, LIMIT + 1, 0), 1);
        put(rows, 0, -LIMIT, LIMIT, -LIMIT, LIMIT, -LIMIT, LIMIT, -LIMIT, LIMIT, 1);
        check.due("at -100000000", rows.sign(0, -LIMIT, 0), -1);
        check.due("at -100000001", rows.sign(0, -LIMIT - 1, 0), 1);
        check.due("at the least, s 12", rows.sign(0, LEAST, 12), -1);
    }

    /** Nothing is said to change by a question: neither by one that is answered nor by one that is not. */
    private static void questionsChangeNothing() {
        int[] args = {LEAST, -1, 0, 3, 7, 8, 13, GREATEST};
        for (int x : args) {
            for (int y : args) {
                Twin.stays(check, "questions " + x + ", " + y, Twin::fill, rows -> {
                    rows.number(x, y);
                    rows.count(x, y);
                    rows.root(x, y, 3);
                    rows.root(x, 0, y);
                    rows.often(x, y);
                    rows.between(x, y, 5);
                    rows.between(x, -5, y);
                    rows.sign(x, y, 0);
                    rows.sign(x, 1, y);
                    rows.laced(x, y);
                    rows.chain(x, y);
                    rows.member(x, y, 0);
                    rows.member(x, 0, y);
                    rows.fails(x);
                    rows.row(x, y);
                    rows.mean(x, true);
                    rows.fault();
                });
            }
        }
    }
}
