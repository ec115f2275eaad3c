/**
 * Terms 2 (NEWTON, CONCAVE, HOLE, HUMP, MODES, MEAN) and the promises 20 and 21 at their boundaries: each sentence of
 * the document that names one is quoted above its test, which looks at it, just inside and just beyond.
 */
public final class RowEdgesTest {
    private static final Check check = new Check();
    private static final int LIMIT = 100000000;
    private static final long NO = RootRows.NO_NUMBER;
    private static final int LEAST = Integer.MIN_VALUE;
    private static final int GREATEST = Integer.MAX_VALUE;
    private static final int[] NO_TRAYS = {LEAST, -9, -8, -1, 8, 9, 15, 16, 256, GREATEST};

    private static final int NEWTON = 0;
    private static final int CONCAVE = 1;
    private static final int HOLES = 2;
    private static final int HUMP = 3;
    private static final int MODES = 4;

    public static void main(String[] args) {
        rowArguments();
        rowOfZero();
        rowShort();
        newtonJust();
        newtonByDegree();
        newtonSigns();
        concaveJust();
        concaveSigns();
        holesAll();
        humpEdges();
        humpAll();
        modesTies();
        modesWithinTheRow();
        meanArguments();
        meanNone();
        meanLeastTerms();
        meanSigns();
        meanFar();
        check.finish("RowEdgesTest");
    }

    private static void put(RootRows rows, int tray, long... numbers) {
        for (int k = 0; k <= 8; k++) {
            check.due("put", rows.put(tray, k, k < numbers.length ? (int) numbers[k] : 0), true);
        }
    }

    private static RootRows of(long... numbers) {
        RootRows rows = new RootRows();
        put(rows, 0, numbers);
        return rows;
    }

    private static void due(int what, int due, long... numbers) {
        check.due("row " + what + " of " + java.util.Arrays.toString(numbers), of(numbers).row(0, what), due);
    }

    private static long[] at(int power, long... numbers) {
        long[] row = new long[9];
        System.arraycopy(numbers, 0, row, power, numbers.length);
        return row;
    }

    private static long[] binomial(int n, long factor) {
        long[] row = new long[9];
        row[0] = factor;
        for (int k = 1; k <= n; k++) {
            row[k] = row[k - 1] * (n - k + 1) / k;
        }
        return row;
    }

    // ---- Promise 20

    /** "NONE for another what, too." and "(NONE: there is none such; -2: it is 0)". */
    private static void rowArguments() {
        int[] others = {LEAST, -5, -2, -1, 5, 6, 8, 256, GREATEST};
        for (int tray = 0; tray <= 7; tray++) {
            RootRows rows = new RootRows();
            put(rows, tray, 1, 0, 3);
            int[] due = {1, 1, 2, 0, 4};
            for (int what = 0; what <= 4; what++) {
                check.due("row(" + tray + ", " + what + ")", rows.row(tray, what), due[what]);
                check.due("row of 0, " + what, rows.row((tray + 1) % 8, what), -2);
            }
            for (int what : others) {
                check.due("row(" + tray + ", " + what + ")", rows.row(tray, what), -1);
            }
            for (int none : NO_TRAYS) {
                for (int what = -1; what <= 5; what++) {
                    check.due("row(" + none + ", " + what + ")", rows.row(none, what), -1);
                }
            }
        }
    }

    /** "-2: it is 0", and no longer so as soon as one number is not. */
    private static void rowOfZero() {
        for (int k = 0; k <= 8; k++) {
            RootRows rows = new RootRows();
            for (int what = 0; what <= 4; what++) {
                check.due("row of 0", rows.row(3, what), -2);
            }
            rows.put(3, k, 1);
            int[] due = {0, 0, 0, 1, 1 << k};
            for (int what = 0; what <= 4; what++) {
                check.due("row of x^" + k + ", " + what, rows.row(3, what), due[what]);
            }
            rows.put(3, k, 0);
            for (int what = 0; what <= 4; what++) {
                check.due("row of 0 again", rows.row(3, what), -2);
            }
        }
    }

    /** "NEWTON at k (1 to n - 1)": of DEGREE 0 and 1 there is no k, "(0 both: everywhere)". */
    private static void rowShort() {
        long[][] rows = {{1}, {-1}, {LIMIT}, {1, 1}, {LIMIT, 1}, {1, LIMIT}, {-1, 1}, {-LIMIT, LIMIT}, {0, 1}};
        for (long[] p : rows) {
            due(NEWTON, 0, p);
            due(CONCAVE, 0, p);
        }
    }

    /** "ck ck k (n - k) >= c(k-1) c(k+1) (k + 1) (n - k + 1)": just so in the rows of (1 + x)^n. */
    private static void newtonJust() {
        for (int n = 2; n <= 8; n++) {
            long most = 0;
            for (long number : binomial(n, 1)) {
                most = Math.max(most, number);
            }
            due(NEWTON, 0, binomial(n, LIMIT / most));
            for (long factor : new long[] {1, 2, (LIMIT - 1) / most}) {
                long[] row = binomial(n, factor);
                due(NEWTON, 0, row);
                for (int k = 1; k < n; k++) {
                    long[] less = row.clone();
                    less[k]--;
                    due(NEWTON, k, less);
                    long[] ahead = row.clone();
                    ahead[k - 1]++;
                    due(NEWTON, k > 2 ? k - 2 : k, ahead);
                    long[] behind = row.clone();
                    behind[k + 1]++;
                    due(NEWTON, k, behind);
                }
            }
            long[] first = binomial(n, 1);
            first[0]--;
            due(NEWTON, 0, first);
            long[] last = binomial(n, 2);
            last[n]--;
            due(NEWTON, 0, last);
        }
    }

    /** n is the DEGREE of the row, not 8, and k = 0 and k = n are not looked at. */
    private static void newtonByDegree() {
        due(NEWTON, 0, 1, 2, 1);
        due(NEWTON, 1, 1, 2, 2);
        due(NEWTON, 1, 4, 7, 4);
        due(NEWTON, 0, 4, 8, 4);
        // with x^4 it is 27 >= 24 at 1, 36 >= 27 at 2, but 3 >= 24 at 3
        due(NEWTON, 0, 1, 3, 3, 1);
        due(NEWTON, 3, 1, 3, 3, 1, 1);
        due(NEWTON, 0, 0, 0, 0, 1);
        due(NEWTON, 0, 0, 0, 1, 1);
        due(NEWTON, 0, 0, 0, 1, 2, 1);
        due(NEWTON, 3, 0, 0, 3, 2, 3);
        due(NEWTON, 1, 1, 0, 1);
        due(NEWTON, 2, 0, 1, 0, 1);
        due(NEWTON, 7, 0, 0, 0, 0, 0, 0, 1, 0, 1);
    }

    /** Numbers below 0 count with their sign. */
    private static void newtonSigns() {
        due(NEWTON, 0, -1, 0, 1);
        due(NEWTON, 1, -1, 0, -1);
        due(NEWTON, 0, -1, 2, -1);
        due(NEWTON, 0, -1, -2, -1);
        due(NEWTON, 1, -2, -2, -1);
        due(NEWTON, 0, LIMIT, 0, -LIMIT);
        due(NEWTON, 1, -LIMIT, 0, -LIMIT);
        due(NEWTON, 1, LIMIT, LIMIT, LIMIT, LIMIT, LIMIT, LIMIT, LIMIT, LIMIT, LIMIT);
        due(NEWTON, 4, 0, 0, 0, LIMIT, LIMIT, LIMIT, 0, 0, -LIMIT);
        due(NEWTON, 0, LIMIT, 0, 0, LIMIT, 0, 0, LIMIT, 0, 0);
        due(NEWTON, 1, LIMIT, 0, LIMIT, 0, LIMIT, 0, LIMIT, 0, LIMIT);
    }

    /** "CONCAVE at k: ck ck >= c(k-1) c(k+1)": just so where each is so many times the one ahead. */
    private static void concaveJust() {
        for (int n = 2; n <= 8; n++) {
            for (int base : new int[] {1, 2, 3, 10}) {
                long[] row = new long[9];
                row[0] = base == 1 ? LIMIT : 1;
                for (int k = 1; k <= n; k++) {
                    row[k] = row[k - 1] * base;
                }
                due(CONCAVE, 0, row);
                for (int k = 1; k < n; k++) {
                    long[] less = row.clone();
                    less[k]--;
                    due(CONCAVE, k, less);
                    if (base > 1 && n < 8) {
                        long[] behind = row.clone();
                        behind[k + 1]++;
                        due(CONCAVE, k, behind);
                    }
                }
                long[] ends = row.clone();
                ends[n]--;
                due(CONCAVE, 0, ends);
            }
        }
        due(CONCAVE, 0, LIMIT, LIMIT - 1, LIMIT - 2);
        due(CONCAVE, 0, LIMIT - 2, LIMIT - 1, LIMIT);
        due(CONCAVE, 1, LIMIT, LIMIT - 1, LIMIT - 1);
        due(CONCAVE, 0, LIMIT, LIMIT, LIMIT - 1);
        // 65536 times 65536 comes round as an int
        due(CONCAVE, 1, 65536, 1, 65536);
        due(CONCAVE, 0, 1, 65536, 1);
    }

    private static void concaveSigns() {
        due(CONCAVE, 0, -1, 0, 1);
        due(CONCAVE, 1, -1, 0, -1);
        due(CONCAVE, 1, 1, 0, 1);
        due(CONCAVE, 0, 0, 0, 1);
        due(CONCAVE, 0, 1, 0, 0, 1);
        due(CONCAVE, 7, 0, 0, 0, 0, 0, 0, 1, 0, 1);
        due(CONCAVE, 0, 0, 0, 0, 0, 0, 0, 0, 1, 1);
        due(CONCAVE, 0, -1, -1, -1);
        due(CONCAVE, 1, -2, -1, -1);
        due(CONCAVE, 1, -LIMIT, LIMIT - 1, -LIMIT);
        due(CONCAVE, 0, -LIMIT, LIMIT, -LIMIT);
    }

    /** "HOLE at k: ck is 0, some number ahead of it in the ROW is not (nor is cn)": every row of 0 and not 0. */
    private static void holesAll() {
        for (int mask = 1; mask < 512; mask++) {
            long[] row = new long[9];
            long[] turned = new long[9];
            for (int k = 0; k <= 8; k++) {
                boolean some = (mask >> k & 1) != 0;
                row[k] = some ? 1 + k : 0;
                turned[k] = some ? (k % 2 == 0 ? -LIMIT : LIMIT) : 0;
            }
            int lowest = Integer.numberOfTrailingZeros(mask);
            int degree = 31 - Integer.numberOfLeadingZeros(mask);
            int due = ((1 << degree) - 1 & ~((1 << lowest) - 1)) & ~mask;
            due(HOLES, due, row);
            due(HOLES, due, turned);
        }
        due(HOLES, 0, 0, 0, 0, 0, 0, 0, 0, 0, 1);
        due(HOLES, 254, 1, 0, 0, 0, 0, 0, 0, 0, 1);
        due(HOLES, 128, 0, 0, 0, 0, 0, 0, 1, 0, 1);
        due(HOLES, 0, 1);
        due(HOLES, 2, 1, 0, 1);
    }

    /** "no number up to cm is less than the one ahead, none behind cm more": as much is neither. */
    private static void humpEdges() {
        due(HUMP, 1, 5);
        due(HUMP, 1, -5);
        due(HUMP, 1, 1, 1);
        due(HUMP, 1, 1, 2);
        due(HUMP, 1, 2, 1);
        due(HUMP, 1, 1, 1, 1);
        due(HUMP, 1, 1, 2, 2, 1);
        due(HUMP, 1, 1, 2, 2, 2, 1, 1, 1);
        due(HUMP, 1, 2, 2, 1, 1);
        due(HUMP, 0, 2, 1, 2);
        due(HUMP, 0, 3, 1, 2);
        due(HUMP, 0, 2, 1, 1, 2);
        due(HUMP, 0, LIMIT, LIMIT - 1, LIMIT);
        due(HUMP, 1, LIMIT, LIMIT - 1, LIMIT - 1);
        due(HUMP, 1, LIMIT - 1, LIMIT - 1, LIMIT);
        due(HUMP, 1, 0, 0, 0, 0, 0, 0, 0, 0, 1);
        due(HUMP, 0, 1, 0, 0, 0, 0, 0, 0, 0, 1);
        due(HUMP, 1, 1, 2, 3, 4, 5, 6, 7, 8, 9);
        due(HUMP, 1, 9, 8, 7, 6, 5, 4, 3, 2, 1);
        due(HUMP, 1, -LIMIT, 0, LIMIT, 0, -LIMIT);
        due(HUMP, 0, LIMIT, 0, -LIMIT, 0, LIMIT);
        // behind cn there is nothing more: 0 is not a number of the row
        due(HUMP, 1, 5, -1);
        due(HUMP, 1, 5, -1, -2);
        due(HUMP, 0, 5, -2, -1);
        due(HUMP, 1, -2, -1);
        // a dip of 1 in a row of a hump, at each place but its ends
        long[] row = {1, 3, 5, 7, 9, 7, 5, 3, 1};
        due(HUMP, 1, row);
        for (int k = 1; k <= 7; k++) {
            long[] dip = row.clone();
            dip[k] = Math.min(row[k - 1], row[k + 1]);
            due(HUMP, 1, dip);
            dip[k]--;
            due(HUMP, 0, dip);
        }
    }

    /** Every row of five numbers of 0, 1, 2: some m does or none. */
    private static void humpAll() {
        for (int code = 0; code < 243; code++) {
            long[] row = new long[6];
            int left = code;
            for (int k = 0; k < 5; k++) {
                row[k] = left % 3;
                left /= 3;
            }
            row[5] = 1;
            int due = 0;
            for (int m = 0; m <= 5; m++) {
                boolean so = true;
                for (int k = 1; k <= 5; k++) {
                    so &= k <= m ? row[k] >= row[k - 1] : row[k] <= row[k - 1];
                }
                due |= so ? 1 : 0;
            }
            due(HUMP, due, row);
        }
    }

    /** "MODES: the k of which ck is greatest." */
    private static void modesTies() {
        for (int mask = 1; mask < 512; mask++) {
            long[] row = new long[9];
            for (int k = 0; k <= 8; k++) {
                row[k] = (mask >> k & 1) != 0 ? LIMIT : LIMIT - 1;
            }
            due(MODES, mask, row);
            for (int k = 0; k <= 8; k++) {
                row[k] = (mask >> k & 1) != 0 ? 1 - LIMIT : -LIMIT;
            }
            due(MODES, mask, row);
        }
        due(MODES, 511, -LIMIT, -LIMIT, -LIMIT, -LIMIT, -LIMIT, -LIMIT, -LIMIT, -LIMIT, -LIMIT);
        due(MODES, 256, at(8, LIMIT));
        due(MODES, 255, at(8, -1));
    }

    /** "The ROW of a POLYNOMIAL of DEGREE n is c0 to cn": the numbers 0 behind cn are none of it. */
    private static void modesWithinTheRow() {
        due(MODES, 1, -1);
        due(MODES, 1, -LIMIT);
        due(MODES, 1, -1, -2);
        due(MODES, 2, -2, -1);
        due(MODES, 3, -1, -1);
        due(MODES, 2, -1, 0, -1);
        due(MODES, 1, 0, -1);
        due(MODES, 3, 0, 0, -1);
    }

    // ---- Promise 21

    private static void dueMean(long upper, long lower, long... numbers) {
        RootRows rows = of(numbers);
        String of = " of " + java.util.Arrays.toString(numbers);
        check.due("mean" + of, rows.mean(0, false), upper);
        check.due("mean, lower" + of, rows.mean(0, true), lower);
    }

    /** "NO_NUMBER: there is none such". */
    private static void meanArguments() {
        for (int tray = 0; tray <= 7; tray++) {
            RootRows rows = new RootRows();
            put(rows, tray, 1, 2, 2);
            check.due("mean(" + tray + ")", rows.mean(tray, false), 6);
            check.due("mean(" + tray + "), lower", rows.mean(tray, true), 5);
            check.due("mean of 0", rows.mean((tray + 1) % 8, false), NO);
            check.due("mean of 0, lower", rows.mean((tray + 1) % 8, true), NO);
            for (int none : NO_TRAYS) {
                check.due("mean(" + none + ")", rows.mean(none, false), NO);
                check.due("mean(" + none + "), lower", rows.mean(none, true), NO);
            }
        }
    }

    /** "the POLYNOMIAL is 0 at 1": and where it is 1 or -1 there. */
    private static void meanNone() {
        dueMean(NO, NO);
        dueMean(NO, NO, -1, 1);
        dueMean(1, 1, 0, 1);
        dueMean(-1, 1, 2, -1);
        dueMean(2, 1, -1, 2);
        dueMean(NO, NO, LIMIT, -LIMIT);
        dueMean(-LIMIT + 1, 1, LIMIT, 1 - LIMIT);
        dueMean(LIMIT, 1, 1 - LIMIT, LIMIT);
        dueMean(LIMIT, 1, LIMIT - 1, -LIMIT);
        dueMean(1 - LIMIT, 1, -LIMIT, LIMIT - 1);
        dueMean(NO, NO, 1, -2, 1);
        dueMean(NO, NO, LIMIT, -LIMIT, LIMIT, -LIMIT, LIMIT, -LIMIT, LIMIT, -LIMIT);
        dueMean(NO, NO, -1, 0, 0, 0, 0, 0, 0, 0, 1);
    }

    /** "MEAN in least terms, its upper, or (lower) its lower number (above 0)." */
    private static void meanLeastTerms() {
        dueMean(0, 1, 1);
        dueMean(0, 1, -1);
        dueMean(0, 1, LIMIT);
        dueMean(0, 1, -LIMIT);
        dueMean(0, 1, 5, 2, -1);
        for (int k = 0; k <= 8; k++) {
            dueMean(k, 1, at(k, 7));
            dueMean(k, 1, at(k, -LIMIT));
        }
        dueMean(1, 2, 3, 3);
        dueMean(1, 3, 4, 2);
        dueMean(3, 2, 1, 3, 3, 1);
        dueMean(4, 3, 1, 0, 2);
        dueMean(16, 3, LIMIT / 2, 0, 0, 0, 0, 0, 0, 0, LIMIT);
    }

    /** The lower number is above 0, whatever the signs. */
    private static void meanSigns() {
        dueMean(1, 2, 1, 1);
        dueMean(1, 2, -1, -1);
        dueMean(-1, 2, 3, -1);
        dueMean(-1, 2, -3, 1);
        dueMean(3, 2, -1, 3);
        dueMean(3, 2, 1, -3);
    }

    /** Sums of nine numbers at the limit, and of those times k, do not come round. */
    private static void meanFar() {
        dueMean(4, 1, LIMIT, LIMIT, LIMIT, LIMIT, LIMIT, LIMIT, LIMIT, LIMIT, LIMIT);
        dueMean(4, 1, -LIMIT, -LIMIT, -LIMIT, -LIMIT, -LIMIT, -LIMIT, -LIMIT, -LIMIT, -LIMIT);
        dueMean(3600000000L, 899999999, LIMIT - 1, LIMIT, LIMIT, LIMIT, LIMIT, LIMIT, LIMIT, LIMIT, LIMIT);
        dueMean(3600000000L, 899999999, 1 - LIMIT, -LIMIT, -LIMIT, -LIMIT, -LIMIT, -LIMIT, -LIMIT, -LIMIT, -LIMIT);
        dueMean(2000000004, 1, -LIMIT, -LIMIT, -LIMIT, -LIMIT, 1, LIMIT, LIMIT, LIMIT, LIMIT);
        dueMean(-1999999996, 1, -LIMIT, -LIMIT, -LIMIT, -LIMIT, -1, LIMIT, LIMIT, LIMIT, LIMIT);
        dueMean(NO, NO, -LIMIT, -LIMIT, -LIMIT, -LIMIT, 0, LIMIT, LIMIT, LIMIT, LIMIT);
    }
}
