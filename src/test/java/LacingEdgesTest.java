/**
 * Terms 1 (LACED, PROOF, FAILS) and the promises 16 to 19 at their boundaries: each sentence of the document that names
 * one is quoted above its test, which looks at it, just inside and just beyond.
 */
public final class LacingEdgesTest {
    private static final Check check = new Check();
    private static final int LIMIT = 100000000;
    private static final int LEAST = Integer.MIN_VALUE;
    private static final int GREATEST = Integer.MAX_VALUE;
    private static final int[] NO_TRAYS = {LEAST, -9, -8, -1, 8, 9, 15, 16, 256, GREATEST};

    public static void main(String[] args) {
        lacedArguments();
        lacedDegrees();
        lacedZeroAndNumbers();
        lacedNotWhole();
        lacedOneLess();
        lacedAsMany();
        lacedLongRows();
        lacedHardly();
        lacedSigns();
        chainArguments();
        chainBounds();
        chainOrder();
        memberArguments();
        memberBelowDegreeOne();
        memberLast();
        memberGaps();
        failsArguments();
        failsNowhere();
        failsAtASign();
        failsAtADegree();
        failsBehindTheLast();
        failsAtTheFirst();
        check.finish("LacingEdgesTest");
    }

    private static void put(RootRows rows, int tray, long... numbers) {
        for (int k = 0; k <= 8; k++) {
            check.due("put", rows.put(tray, k, k < numbers.length ? (int) numbers[k] : 0), true);
        }
    }

    private static RootRows of(long... numbers) {
        RootRows rows = new RootRows();
        put(rows, 0, numbers);
        return rows;
    }

    private static String name(long... numbers) {
        return java.util.Arrays.toString(numbers);
    }

    private static long[] at(int power, long... numbers) {
        long[] row = new long[9];
        System.arraycopy(numbers, 0, row, power, numbers.length);
        return row;
    }

    /** A polynomial with these roots in a tray, times a number. */
    private static void setRoots(RootRows rows, int tray, int factor, int... roots) {
        put(rows, tray, factor);
        for (int root : roots) {
            check.due("times x less " + root, rows.operate(tray, tray, 3, -root), true);
        }
    }

    private static void dueLaced(int due, long[] p, long... q) {
        RootRows rows = new RootRows();
        put(rows, 2, p);
        put(rows, 5, q);
        check.due("laced " + name(p) + ", " + name(q), rows.laced(2, 5), due);
        check.due("chain " + name(p) + ", " + name(q), laceByChain(p, q), due);
    }

    /** TRAYS k + 1 and k, in this order. */
    private static int laceByChain(long[] p, long[] q) {
        RootRows rows = new RootRows();
        put(rows, 7, p);
        put(rows, 6, q);
        return rows.chain(6, 7) == -1 ? 1 : 0;
    }

    private static void dueRoots(int due, int[] p, int... q) {
        RootRows rows = new RootRows();
        setRoots(rows, 0, 1, p);
        setRoots(rows, 1, 1, q);
        String call = java.util.Arrays.toString(p) + ", " + java.util.Arrays.toString(q);
        check.due("laced by roots " + call, rows.laced(0, 1), due);
    }

    // ---- Promise 16

    /** "NONE: there are none such." */
    private static void lacedArguments() {
        for (int tray = 0; tray <= 7; tray++) {
            RootRows rows = new RootRows();
            put(rows, tray, 0, 1);
            check.due("laced with itself", rows.laced(tray, tray), 1);
            for (int other = 0; other <= 7; other++) {
                check.due("laced(" + tray + ", " + other + ")", rows.laced(tray, other), tray == other ? 1 : 0);
                check.due("laced(" + other + ", " + tray + ")", rows.laced(other, tray), tray == other ? 1 : 0);
            }
            for (int none : NO_TRAYS) {
                check.due("laced(" + tray + ", " + none + ")", rows.laced(tray, none), -1);
                check.due("laced(" + none + ", " + tray + ")", rows.laced(none, tray), -1);
                check.due("laced(" + none + ", " + none + ")", rows.laced(none, none), -1);
            }
        }
    }

    /** "DEGREE of q is that of p or 1 less". */
    private static void lacedDegrees() {
        for (int n = 0; n <= 8; n++) {
            for (int m = 0; m <= 8; m++) {
                dueLaced(m == n || m == n - 1 ? 1 : 0, at(n, 3), at(m, -2));
            }
        }
    }

    /** "both are WHOLE": 0 is not; a number that is not 0 is; "(none: so)". */
    private static void lacedZeroAndNumbers() {
        dueLaced(0, at(0));
        for (int n = 0; n <= 8; n++) {
            dueLaced(0, at(n, 1));
            dueLaced(0, at(0), at(n, 1));
        }
        dueLaced(1, at(0, 1), 1);
        dueLaced(1, at(0, LIMIT), -LIMIT);
        dueLaced(1, at(0, -1), LIMIT);
        dueLaced(1, at(0, 5, 1), 7);
        dueLaced(1, at(0, -LIMIT, 1), -7);
        dueLaced(0, at(0, 7), 5, 1);
        dueLaced(0, at(0, -1, 0, 1), 7);
    }

    private static void lacedNotWhole() {
        dueLaced(0, at(0, 1, 0, 1), 0, 1);
        dueLaced(1, at(0, 0, 0, 1), 0, 1);
        dueLaced(1, at(0, -1, 0, 1), 0, 1);
        dueLaced(0, at(0, 0, -1, 0, 1), 1, 0, 1);
        dueLaced(1, at(0, 0, -1, 0, 1), 0, 0, 1);
        dueLaced(0, at(0, 1, 0, 1), 1, 0, 1);
        // x^3 - 3 x + 2 has its third root, x^3 - 3 x + 3 has not
        dueLaced(1, at(0, 2, -3, 0, 1), -1, 0, 1);
        dueLaced(0, at(0, 3, -3, 0, 1), -1, 0, 1);
        dueLaced(1, at(0, 1, -3, 0, 1), -1, 0, 1);
    }

    /** "r1 >= s1 >= r2": s1 is r1, is hardly below, hardly above; likewise at r2. */
    private static void lacedOneLess() {
        long[] p = at(0, -1, 0, 1);
        dueLaced(1, p, -1, 1);
        dueLaced(1, p, 1 - LIMIT, LIMIT);
        dueLaced(0, p, -LIMIT, LIMIT - 1);
        dueLaced(1, p, 1, 1);
        dueLaced(1, p, LIMIT - 1, LIMIT);
        dueLaced(0, p, LIMIT, LIMIT - 1);
        // r is the root of 2 either way: s nears it from both sides
        long[] roots = at(0, -2, 0, 1);
        dueLaced(1, roots, -8119, 5741);
        dueLaced(0, roots, -3363, 2378);
        dueLaced(1, roots, 8119, 5741);
        dueLaced(0, roots, 3363, 2378);
        // one root twice: what lies between its two is it alone
        dueLaced(1, at(0, 1, -2, 1), -1, 1);
        dueLaced(0, at(0, 1, -2, 1), 1 - LIMIT, LIMIT);
        dueLaced(0, at(0, 1, -2, 1), -LIMIT, LIMIT - 1);
        dueRoots(1, new int[] {2, 2, 2}, 2, 2);
        dueRoots(0, new int[] {2, 2, 2}, 2, 1);
        dueRoots(0, new int[] {2, 2, 2}, 3, 2);
        dueRoots(0, new int[] {2, 2, 1}, 1, 1);
        dueRoots(1, new int[] {2, 2, 1}, 2, 1);
        dueRoots(1, new int[] {2, 2, 1}, 2, 2);
        dueRoots(1, new int[] {2, 1, 1}, 2, 1);
        dueRoots(1, new int[] {2, 1, 1}, 1, 1);
        dueRoots(0, new int[] {2, 1, 1}, 2, 2);
        dueRoots(0, new int[] {2, 1, 1}, 1, 0);
    }

    /** Of as many, "r1 >= s1 >= r2 >= s2 and so on": the last s is below all, or the last r. */
    private static void lacedAsMany() {
        dueLaced(1, at(0, -1, 1), -1, 1);
        dueLaced(1, at(0, -1, 1), 1 - LIMIT, LIMIT);
        dueLaced(0, at(0, -1, 1), -LIMIT, LIMIT - 1);
        dueLaced(1, at(0, -1, 1), LIMIT, 1);
        dueLaced(0, at(0, LIMIT, 1), -1, 1);
        dueRoots(1, new int[] {3, 1}, 3, 1);
        dueRoots(1, new int[] {3, 1}, 2, 1);
        dueRoots(1, new int[] {3, 1}, 2, 0);
        dueRoots(1, new int[] {3, 1}, 1, 1);
        dueRoots(1, new int[] {3, 1}, 1, 0);
        dueRoots(1, new int[] {3, 1}, 3, -900);
        dueRoots(0, new int[] {3, 1}, 3, 2);
        dueRoots(0, new int[] {3, 1}, 2, 2);
        dueRoots(0, new int[] {3, 1}, 4, 1);
        dueRoots(0, new int[] {3, 1}, 4, 0);
        dueRoots(0, new int[] {3, 1}, 0, 0);
        dueRoots(0, new int[] {3, 1}, 0, -1);
        // s2 at 1, hardly below, hardly above: (x - 2) times it
        long[] p = at(0, 3, -4, 1);
        dueLaced(1, p, 2, -3, 1);
        dueLaced(1, p, 49999998, -74999999, 25000000);
        dueLaced(0, p, 50000000, -74999998, 24999999);
    }

    /** The same at each pair of long rows: one root of q is moved across one of p. */
    private static void lacedLongRows() {
        for (int n = 2; n <= 8; n++) {
            for (int less = 0; less <= 1; less++) {
                int[] p = new int[n];
                int[] q = new int[n - less];
                for (int k = 0; k < n; k++) {
                    p[k] = 6 - 2 * k;
                }
                for (int k = 0; k < q.length; k++) {
                    q[k] = 5 - 2 * k;
                }
                dueRoots(1, p, q);
                for (int k = 0; k < q.length; k++) {
                    boolean lowest = k + 1 == n;
                    int kept = q[k];
                    q[k] = kept + 1;
                    dueRoots(1, p, q);
                    q[k] = kept + 2;
                    dueRoots(0, p, q);
                    q[k] = kept - 1;
                    dueRoots(1, p, q);
                    q[k] = kept - 2;
                    dueRoots(lowest ? 1 : 0, p, q);
                    q[k] = kept;
                }
            }
        }
    }

    /** .. and hardly across: q's k-th root is a root of p, or as little above or below it as the numbers let it be. */
    private static void lacedHardly() {
        for (int n = 1; n <= 8; n++) {
            for (int less = 0; less <= 1; less++) {
                for (int k = 0; k < n - less; k++) {
                    int above = 7 - 2 * k;
                    dueHardly(n, less, k, above, -1, 1);
                    dueHardly(n, less, k, above, 0, 1);
                    dueHardly(n, less, k, above, 1, 0);
                    int below = above - 2;
                    int beyond = k + 1 < n ? 0 : 1;
                    dueHardly(n, less, k, below, 1, 1);
                    dueHardly(n, less, k, below, 0, 1);
                    dueHardly(n, less, k, below, -1, beyond);
                }
            }
        }
    }

    /** p has 7, 5, 3 .., q has 6, 4, 2 .., but for its k-th root, which is as told. */
    private static void dueHardly(int n, int less, int k, int root, int way, int due) {
        RootRows rows = new RootRows();
        put(rows, 0, 1);
        put(rows, 1, 1);
        for (int j = 0; j < n; j++) {
            rows.operate(0, 0, 3, 2 * j - 7);
            if (j < n - less && j != k) {
                rows.operate(1, 1, 3, 2 * j - 6);
            }
        }
        boolean fits = false;
        for (int parts = 10000000; parts >= 100 && !fits; parts /= 2) {
            put(rows, 2, -root * parts - way, parts);
            fits = rows.times(3, 1, 2);
        }
        check.due("room for so many parts", fits, true);
        String of = n + " less " + less + ", root " + k + " at " + root + (way < 0 ? " -" : way > 0 ? " +" : "");
        check.due("hardly laced, " + of, rows.laced(0, 3), due);
    }

    /** The signs of the numbers do not matter, nor what they share. */
    private static void lacedSigns() {
        int[] factors = {1, -1, 7, -7, 1000, -1000};
        for (int one : factors) {
            for (int other : factors) {
                RootRows rows = new RootRows();
                setRoots(rows, 0, one, 5, 3, 1, -1);
                setRoots(rows, 1, other, 4, 2, 0);
                setRoots(rows, 2, other, 4, 2, 0, -2);
                setRoots(rows, 3, other, 6, 2, 0);
                setRoots(rows, 4, other, 6, 4, 2, 0);
                check.due("one less", rows.laced(0, 1), 1);
                check.due("as many", rows.laced(0, 2), 1);
                check.due("as many, turned round", rows.laced(2, 0), 0);
                check.due("one less, not", rows.laced(0, 3), 0);
                check.due("as many, not", rows.laced(0, 4), 0);
                check.due("as many, turned round, so", rows.laced(4, 0), 1);
                check.due("one more", rows.laced(1, 0), 0);
            }
        }
    }

    // ---- Promise 17

    /** "-2: there are no such TRAYS." */
    private static void chainArguments() {
        RootRows rows = new RootRows();
        for (int tray = 0; tray <= 7; tray++) {
            for (int none : NO_TRAYS) {
                check.due("chain(" + tray + ", " + none + ")", rows.chain(tray, none), -2);
                check.due("chain(" + none + ", " + tray + ")", rows.chain(none, tray), -2);
            }
            for (int to = 0; to <= 7; to++) {
                // 0 and 0 are not LACED, so the first k is the first of all
                check.due("chain(" + tray + ", " + to + ") of 0", rows.chain(tray, to), tray < to ? tray : -1);
            }
        }
        for (int none : NO_TRAYS) {
            check.due("chain(" + none + ", " + none + ")", rows.chain(none, none), -2);
        }
    }

    /** "The first k from a TRAY on, below another one .. NONE: there is none such k". */
    private static void chainBounds() {
        for (int broken = -1; broken <= 7; broken++) {
            RootRows rows = new RootRows();
            for (int tray = 0; tray <= 7; tray++) {
                rows.put(tray, tray, 1);
            }
            if (broken >= 0) {
                rows.put(broken, broken, 0);
            }
            for (int from = 0; from <= 7; from++) {
                for (int to = 0; to <= 7; to++) {
                    int due = -1;
                    for (int k = to - 1; k >= from; k--) {
                        due = broken >= 0 && (k == broken || k + 1 == broken) ? k : due;
                    }
                    check.due("chain(" + from + ", " + to + ") without " + broken, rows.chain(from, to), due);
                }
            }
        }
    }

    /** "TRAYS k + 1 and k are not LACED": the higher tray has the degree that is one more. */
    private static void chainOrder() {
        RootRows rows = new RootRows();
        setRoots(rows, 0, 1, 0);
        setRoots(rows, 1, 1, 1, -1);
        check.due("rising", rows.chain(0, 1), -1);
        check.due("rising, laced", rows.laced(1, 0), 1);
        setRoots(rows, 2, 1, 0);
        check.due("falling", rows.chain(1, 2), 1);
        check.due("falling, from 0", rows.chain(0, 2), 1);
        check.due("falling, laced the other way", rows.laced(1, 2), 1);
        setRoots(rows, 3, 1, 1);
        check.due("as many, the higher tray ahead", rows.chain(2, 3), -1);
        setRoots(rows, 3, 1, -1);
        check.due("as many, the higher tray behind", rows.chain(2, 3), 2);
        setRoots(rows, 3, 1, 0);
        check.due("the same", rows.chain(2, 3), -1);
    }

    // ---- Promise 18

    /** "NONE: there are none such (also where the sign is asked)." */
    private static void memberArguments() {
        int[] others = {LEAST, -2, -1, 2, 3, 8, 256, GREATEST};
        int[] noMembers = {LEAST, -2, -1, 4, 5, 8, 9, 10, 11, 256, GREATEST};
        for (int tray = 0; tray <= 7; tray++) {
            RootRows rows = new RootRows();
            put(rows, tray, 1, -3, 0, 1);
            for (int j = 0; j <= 3; j++) {
                check.due("member(" + tray + ", " + j + ", 0)", rows.member(tray, j, 0), 3 - j);
                check.due("member(" + tray + ", " + j + ", 1)", rows.member(tray, j, 1), 1);
                for (int what : others) {
                    check.due("member(" + tray + ", " + j + ", " + what + ")", rows.member(tray, j, what), -1);
                }
            }
            for (int j : noMembers) {
                check.due("member(" + tray + ", " + j + ", 0)", rows.member(tray, j, 0), -1);
                check.due("member(" + tray + ", " + j + ", 1)", rows.member(tray, j, 1), -1);
            }
            for (int none : NO_TRAYS) {
                check.due("member(" + none + ", 0, 0)", rows.member(none, 0, 0), -1);
                check.due("member(" + none + ", 0, 1)", rows.member(none, 0, 1), -1);
            }
        }
    }

    /** "PROOF of a POLYNOMIAL of DEGREE 1 and more". */
    private static void memberBelowDegreeOne() {
        long[][] rows = {{}, {1}, {-1}, {LIMIT}, {-LIMIT}};
        for (long[] p : rows) {
            for (int j = -1; j <= 2; j++) {
                check.due("member " + j + " of " + name(p), of(p).member(0, j, 0), -1);
                check.due("sign of member " + j + " of " + name(p), of(p).member(0, j, 1), -1);
            }
        }
        for (long lead : new long[] {1, -1, LIMIT, -LIMIT}) {
            for (long c0 : new long[] {0, 1, -1, LIMIT, -LIMIT}) {
                dueMembers(new long[] {c0, lead}, 1, lead > 0 ? 1 : -1, 0, lead > 0 ? 1 : -1);
            }
        }
    }

    private static void dueMembers(long[] p, int... degreesAndSigns) {
        RootRows rows = of(p);
        int n = degreesAndSigns.length / 2;
        check.due("members of " + name(p), rows.count(0, 6), n);
        for (int j = 0; j < n; j++) {
            check.due("member " + j + " of " + name(p), rows.member(0, j, 0), degreesAndSigns[2 * j]);
            check.due("sign of member " + j + " of " + name(p), rows.member(0, j, 1), degreesAndSigns[2 * j + 1]);
        }
        check.due("member -1 of " + name(p), rows.member(0, -1, 0), -1);
        check.due("behind the last of " + name(p), rows.member(0, n, 0), -1);
        check.due("behind the last of " + name(p) + ", sign", rows.member(0, n, 1), -1);
    }

    /** Nine members are the most there can be; two the fewest. */
    private static void memberLast() {
        long[] hermite = {105, 0, -420, 0, 210, 0, -28, 0, 1};
        dueMembers(hermite, 8, 1, 7, 1, 6, 1, 5, 1, 4, 1, 3, 1, 2, 1, 1, 1, 0, 1);
        long[] turned = new long[9];
        for (int k = 0; k <= 8; k++) {
            turned[k] = -hermite[k];
        }
        dueMembers(turned, 8, -1, 7, -1, 6, -1, 5, -1, 4, -1, 3, -1, 2, -1, 1, -1, 0, -1);
        for (int n = 1; n <= 8; n++) {
            dueMembers(at(n, LIMIT), n, 1, n - 1, 1);
            dueMembers(at(n, -LIMIT), n, -1, n - 1, -1);
        }
    }

    /** "as long as it is not 0", and where powers lack. */
    private static void memberGaps() {
        // x^n + c: n x^(n-1), -c
        for (int n = 2; n <= 8; n++) {
            for (int c = -1; c <= 1; c += 2) {
                long[] p = at(n, 1);
                p[0] = c;
                dueMembers(p, n, 1, n - 1, 1, 0, -c);
                p[0] = (long) c * LIMIT;
                dueMembers(p, n, 1, n - 1, 1, 0, -c);
                p[n] = -LIMIT;
                dueMembers(p, n, -1, n - 1, -1, 0, -c);
            }
        }
        // x^4 + c x: 4 x^3 + c, -3/4 c x, -c; x^8 + c x: 8 x^7 + c, -7/8 c x, -c
        for (int c = -1; c <= 1; c += 2) {
            dueMembers(new long[] {0, c, 0, 0, 1}, 4, 1, 3, 1, 1, -c, 0, -c);
            dueMembers(new long[] {0, c, 0, 0, 0, 0, 0, 0, 1}, 8, 1, 7, 1, 1, -c, 0, -c);
        }
        // x^3 - 3 x + 2 = (x - 1)^2 (x + 2): 3 x x - 3, 2 x - 2
        dueMembers(new long[] {2, -3, 0, 1}, 3, 1, 2, 1, 1, 1);
        // x^3 - 3 x + 1 and + 3: the last member is 9/4 and -15/4
        dueMembers(new long[] {1, -3, 0, 1}, 3, 1, 2, 1, 1, 1, 0, 1);
        dueMembers(new long[] {3, -3, 0, 1}, 3, 1, 2, 1, 1, 1, 0, -1);
    }

    // ---- Promise 19

    private static void dueFails(int due, long... p) {
        check.due("fails of " + name(p), of(p).fails(0), due);
        long[] turned = new long[p.length];
        for (int k = 0; k < p.length; k++) {
            turned[k] = -p[k];
        }
        check.due("fails of " + name(turned), of(turned).fails(0), due);
    }

    /** "NONE: nowhere; -2: there is none, none such." */
    private static void failsArguments() {
        for (int tray = 0; tray <= 7; tray++) {
            RootRows rows = new RootRows();
            check.due("fails(" + tray + ") of 0", rows.fails(tray), -2);
            put(rows, tray, 1);
            check.due("fails(" + tray + ") of 1", rows.fails(tray), -2);
            put(rows, tray, 1, 1);
            check.due("fails(" + tray + ") of x + 1", rows.fails(tray), -1);
            put(rows, tray, 1, 1, 1);
            check.due("fails(" + tray + ") of x x + x + 1", rows.fails(tray), 2);
            for (int none : NO_TRAYS) {
                check.due("fails(" + none + ")", rows.fails(none), -2);
            }
        }
        dueFails(-2);
        dueFails(-2, 1);
        dueFails(-2, LIMIT);
        dueFails(-1, 0, 1);
        dueFails(-1, LIMIT, 1);
        dueFails(-1, 1, LIMIT);
    }

    /** "else nowhere": of all degrees, just where the ROOTS are all real and unlike. */
    private static void failsNowhere() {
        for (int n = 1; n <= 8; n++) {
            RootRows rows = new RootRows();
            put(rows, 0, 1);
            for (int k = 0; k < n; k++) {
                rows.operate(0, 0, 3, k - 4);
            }
            check.due("fails of degree " + n, rows.fails(0), -1);
            check.due("whole", rows.count(0, 5), 1);
            check.due("unlike", rows.count(0, 3), n);
            check.due("members", rows.count(0, 6), n + 1);
        }
    }

    /** n - 2 unlike roots times (N x x + c): two more roots, one twice, none. */
    private static long[] besideTwice(int n, int c) {
        RootRows rows = new RootRows();
        put(rows, 0, 1);
        for (int k = 1; k <= n - 2; k++) {
            rows.operate(0, 0, 3, k % 2 == 0 ? k / 2 : -(k + 1) / 2);
        }
        put(rows, 1, c, 0, 1000000);
        check.due("times", rows.times(0, 0, 1), true);
        long[] p = new long[9];
        for (int k = 0; k <= 8; k++) {
            p[k] = rows.number(0, k);
        }
        return p;
    }

    /** "whose number at the highest power is of another sign than that of p": at the very last MEMBER. */
    private static void failsAtASign() {
        for (int n = 2; n <= 8; n++) {
            dueFails(-1, besideTwice(n, -1));
            dueFails(n, besideTwice(n, 1));
            check.due("members with " + n, of(besideTwice(n, 1)).count(0, 6), n + 1);
            check.due("sign of the last", of(besideTwice(n, 1)).member(0, n, 1), -1);
            check.due("sign of the last but one", of(besideTwice(n, 1)).member(0, n - 1, 1), 1);
        }
        dueFails(2, 1, 0, 1);
        dueFails(-1, -1, 0, 1);
        dueFails(-1, 25000000 - 1, LIMIT, LIMIT);
        dueFails(2, 25000000, LIMIT, LIMIT);
        dueFails(2, 25000000 + 1, LIMIT, LIMIT);
    }

    /** "whose DEGREE is not 1 less than that of the one ahead": also where its sign is that of p. */
    private static void failsAtADegree() {
        for (int n = 3; n <= 8; n++) {
            long[] p = at(n, 1);
            p[0] = -1;
            dueFails(2, p);
            p[0] = 1;
            dueFails(2, p);
        }
        dueFails(2, 0, -1, 0, 0, 1);
        dueFails(2, 0, -1, 0, 0, 0, 0, 0, 0, 1);
        // the gap comes later, with the sign of p and with the other
        dueGap(3, new long[] {6, -4, -6, 0, 1}, 4, 1, 3, 1, 2, 1, 0, 1);
        dueGap(3, new long[] {6, 4, -6, 0, 1}, 4, 1, 3, 1, 2, 1, 0, -1);
        dueGap(3, new long[] {-3, -3, 3, 0, -3, 0, 1}, 6, 1, 5, 1, 4, 1, 2, 1, 1, -1, 0, -1);
        dueGap(3, new long[] {-3, 1, 3, 0, -3, 0, 1}, 6, 1, 5, 1, 4, 1, 2, -1, 1, -1, 0, 1);
        dueGap(3, new long[] {-3, 0, 3, 0, -3, 0, 1}, 6, 1, 5, 1, 4, 1, 1, 1, 0, -1);
        dueGap(3, new long[] {0, 0, 3, 0, -3, 0, 1}, 6, 1, 5, 1, 4, 1, 1, -1);
    }

    private static void dueGap(int fails, long[] p, int... degreesAndSigns) {
        dueFails(fails, p);
        dueMembers(p, degreesAndSigns);
    }

    /** "or at the number behind its last MEMBER, if that one is of DEGREE above 0". */
    private static void failsBehindTheLast() {
        for (int n = 2; n <= 8; n++) {
            dueFails(n, besideTwice(n, 0));
            check.due("members with " + n, of(besideTwice(n, 0)).count(0, 6), n);
            check.due("degree of the last", of(besideTwice(n, 0)).member(0, n - 1, 0), 1);
            dueFails(2, at(n, 1));
        }
        dueFails(3, 1, 0, -2, 0, 1);
        dueFails(3, 2, -3, 0, 1);
        dueFails(-1, 1, -3, 0, 1);
        dueFails(3, 3, -3, 0, 1);
    }

    /** More than one would do: the first one is told. */
    private static void failsAtTheFirst() {
        // (x x + 1)^2: 4 x^3 + 4 x, -x x - 1: of another sign at 2, and the last one
        dueFails(2, 1, 0, 2, 0, 1);
        // (x x + 1)^4
        dueFails(2, 1, 0, 4, 0, 6, 0, 4, 0, 1);
        // x^4 + x x: 4 x^3 + 2 x, -x x / 2, -2 x, 0
        dueFails(2, 0, 0, 1, 0, 1);
        dueMembers(new long[] {0, 0, 1, 0, 1}, 4, 1, 3, 1, 2, -1, 1, -1);
        // x^4 - x x: 4 x^3 - 2 x, x x / 2, 2 x
        dueFails(4, 0, 0, -1, 0, 1);
        dueMembers(new long[] {0, 0, -1, 0, 1}, 4, 1, 3, 1, 2, 1, 1, 1);
    }
}
