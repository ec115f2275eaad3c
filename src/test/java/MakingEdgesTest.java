/**
 * Terms 1 and 3 and the promises 1 and 6 to 10 at their boundaries: each sentence of the document that names one is
 * quoted above its test, which looks at it, just inside and just beyond, and at what stays.
 */
public final class MakingEdgesTest {
    private static final Check check = new Check();
    private static final int LIMIT = 100000000;
    private static final long NO = RootRows.NO_NUMBER;
    private static final int[] NO_TRAYS = {Integer.MIN_VALUE, -9, -8, -1, 8, 9, 15, 16, 256, Integer.MAX_VALUE};
    private static final int[] NO_POWERS = {Integer.MIN_VALUE, -9, -1, 9, 10, 17, 256, Integer.MAX_VALUE};
    private static final int[] NO_FACTORS = {Integer.MIN_VALUE, -LIMIT, -1002, -1001, 1001, 1002, LIMIT,
        Integer.MAX_VALUE};

    public static void main(String[] args) {
        newObject();
        objectsApart();
        putNumbers();
        putRefused();
        numberRefused();
        degrees();
        operateArguments();
        operateWhereAIsNotNamed();
        operateOnZero();
        operateDerivative();
        operateWithSlope();
        operateUp();
        operateMoved();
        operateTurned();
        operateStretched();
        operateEuler();
        operateTouchard();
        operateFactorials();
        joinFactors();
        joinLimit();
        joinTrays();
        timesDegree();
        timesLimit();
        timesTrays();
        check.finish("MakingEdgesTest");
    }

    private static void put(RootRows rows, int tray, long... numbers) {
        for (int k = 0; k <= 8; k++) {
            check.due("put", rows.put(tray, k, k < numbers.length ? (int) numbers[k] : 0), true);
        }
    }

    private static void dueRow(String what, RootRows rows, int tray, long... due) {
        for (int k = 0; k <= 8; k++) {
            check.due(what + ", c" + k, rows.number(tray, k), k < due.length ? due[k] : 0);
        }
    }

    /** c at one power alone, from it upwards these. */
    private static long[] at(int power, long... numbers) {
        long[] row = new long[9];
        System.arraycopy(numbers, 0, row, power, numbers.length);
        return row;
    }

    // ---- Promise 1, Terms 1

    /** "All TRAYS have 0." */
    private static void newObject() {
        RootRows rows = new RootRows();
        for (int tray = 0; tray <= 7; tray++) {
            dueRow("new, tray " + tray, rows, tray);
            check.due("degree", rows.count(tray, 0), -1);
        }
        check.due("fault", rows.fault(), 0);
        check.due("the tape is empty", rows.end(1), false);
        check.due("the tape is empty, fed", rows.feed(0, 0, 0, 0, 0), 20);
    }

    /** A new object has nothing of what another one has. */
    private static void objectsApart() {
        RootRows one = new RootRows();
        Twin.fill(one);
        RootRows other = new RootRows();
        for (int tray = 0; tray <= 7; tray++) {
            dueRow("beside another, tray " + tray, other, tray);
        }
        check.due("fault beside another", other.fault(), 0);
        check.due("tape beside another", other.end(1), false);
        long[] due = Twin.answers(one);
        RootRows again = new RootRows();
        Twin.fill(again);
        other.put(0, 0, 7);
        other.count(0, 1);
        other.root(0, 0, 0);
        long[] got = Twin.answers(again);
        for (int k = 0; k < due.length; k++) {
            check.due("beside another, question " + k, got[k], due[k]);
        }
    }

    /** "DEGREE: the greatest k of which ck is not 0 (NONE, if all are 0)." */
    private static void degrees() {
        for (int k = 0; k <= 8; k++) {
            for (int v : new int[] {1, -1, LIMIT, -LIMIT}) {
                RootRows rows = new RootRows();
                rows.put(3, k, v);
                check.due("degree of " + v + "x^" + k, rows.count(3, 0), k);
                rows.put(3, 0, 5);
                check.due("degree with c0", rows.count(3, 0), k);
                rows.put(3, k, 0);
                check.due("degree without x^" + k, rows.count(3, 0), k == 0 ? -1 : 0);
                rows.put(3, 0, 0);
                check.due("degree of 0 again", rows.count(3, 0), -1);
            }
        }
    }

    // ---- Promise 6

    /** "ck of a TRAY is v: true." with numbers of -100000000 to 100000000. */
    private static void putNumbers() {
        int[] within = {-LIMIT, 1 - LIMIT, -1, 0, 1, LIMIT - 1, LIMIT};
        for (int tray = 0; tray <= 7; tray++) {
            for (int k = 0; k <= 8; k++) {
                RootRows rows = new RootRows();
                for (int v : within) {
                    check.due("put(" + tray + ", " + k + ", " + v + ")", rows.put(tray, k, v), true);
                    dueRow("put " + v, rows, tray, at(k, v));
                }
                for (int other = 0; other <= 7; other++) {
                    if (other != tray) {
                        check.due("the other trays", rows.count(other, 0), -1);
                    }
                }
            }
        }
    }

    private static void dueNotPut(int tray, int k, int v) {
        String call = "put(" + tray + ", " + k + ", " + v + ")";
        Twin.stays(check, call, Twin::fill, rows -> check.due(call, rows.put(tray, k, v), false));
    }

    /** "false: there are none such (k 0 to 8), it can't be." */
    private static void putRefused() {
        for (int tray : NO_TRAYS) {
            dueNotPut(tray, 0, 1);
            dueNotPut(tray, 8, 0);
        }
        for (int k : NO_POWERS) {
            dueNotPut(0, k, 1);
            dueNotPut(7, k, 0);
        }
        int[] beyond = {Integer.MIN_VALUE, -LIMIT - 2, -LIMIT - 1, LIMIT + 1, LIMIT + 2, Integer.MAX_VALUE};
        for (int v : beyond) {
            for (int k = 0; k <= 8; k++) {
                dueNotPut(k % 8, k, v);
            }
        }
    }

    // ---- Promise 10

    /** "NO_NUMBER: there are none such (k 0 to 8)." */
    private static void numberRefused() {
        for (int tray = 0; tray <= 7; tray++) {
            RootRows rows = new RootRows();
            put(rows, tray, -LIMIT, 1, 2, 3, 4, 5, 6, 7, LIMIT);
            check.due("number, lowest power", rows.number(tray, 0), -LIMIT);
            check.due("number, next", rows.number(tray, 1), 1);
            check.due("number, last but one", rows.number(tray, 7), 7);
            check.due("number, highest power", rows.number(tray, 8), LIMIT);
            for (int k : NO_POWERS) {
                check.due("number(" + tray + ", " + k + ")", rows.number(tray, k), NO);
            }
            for (int none : NO_TRAYS) {
                check.due("number(" + none + ", 0)", rows.number(none, 0), NO);
            }
        }
    }

    // ---- Promise 7

    private static void dueMade(int operator, int a, long[] p, long... due) {
        String call = "operator " + operator + " by " + a + " on " + java.util.Arrays.toString(p);
        RootRows rows = new RootRows();
        put(rows, 0, p);
        put(rows, 1, LIMIT, -LIMIT, 3, 3, 3, 3, 3, -LIMIT, LIMIT);
        check.due(call, rows.operate(1, 0, operator, a), true);
        dueRow(call, rows, 1, due);
        dueRow(call + ", from", rows, 0, p);
        check.due(call + ", the same", rows.operate(0, 0, operator, a), true);
        dueRow(call + ", the same", rows, 0, due);
    }

    /** "false, and all stays: .. it is no POLYNOMIAL as told." */
    private static void dueNotMade(int operator, int a, long... p) {
        String call = "operator " + operator + " by " + a + " on " + java.util.Arrays.toString(p);
        Twin.Steps before = rows -> {
            Twin.fill(rows);
            put(rows, 6, p);
        };
        Twin.stays(check, call, before, rows -> check.due(call, rows.operate(2, 6, operator, a), false));
        Twin.stays(check, call, before, rows -> check.due(call, rows.operate(6, 6, operator, a), false));
    }

    private static void dueNoCall(int tray, int from, int operator, int a) {
        String call = "operate(" + tray + ", " + from + ", " + operator + ", " + a + ")";
        Twin.stays(check, call, Twin::fill, rows -> check.due(call, rows.operate(tray, from, operator, a), false));
    }

    /** "false, and all stays: there are none such, a can't be". */
    private static void operateArguments() {
        for (int none : NO_TRAYS) {
            dueNoCall(none, 0, 0, 0);
            dueNoCall(0, none, 0, 0);
            dueNoCall(none, none, 5, 0);
        }
        int[] noOperators = {Integer.MIN_VALUE, -10, -1, 10, 11, 256, Integer.MAX_VALUE};
        for (int operator : noOperators) {
            dueNoCall(1, 0, operator, 0);
        }
        for (int operator = 0; operator <= 9; operator++) {
            for (int a : NO_FACTORS) {
                dueNoCall(1, 2, operator, a);
                dueNoCall(2, 7, operator, a);
            }
        }
        for (int tray = 0; tray <= 7; tray++) {
            for (int from = 0; from <= 7; from++) {
                RootRows rows = new RootRows();
                put(rows, from, 0, 1);
                check.due("operate(" + tray + ", " + from + ", ..)", rows.operate(tray, from, 3, 2), true);
                dueRow("operate(" + tray + ", " + from + ", ..)", rows, tray, 0, 2, 1);
            }
        }
    }

    /** "(Where a is not named it does nothing.)": within -1000 to 1000. */
    private static void operateWhereAIsNotNamed() {
        int[] some = {-1000, -999, -1, 0, 1, 999, 1000};
        for (int a : some) {
            dueMade(0, a, at(0, 5, 4, 3), 4, 6);
            dueMade(1, a, at(0, 5, 4, 3), 0, 4, 6);
            dueMade(5, a, at(0, 5, 4, 3), 3, 4, 5);
            dueMade(8, a, at(0, 5, 4, 3), 0, 9, 10, 3);
            dueMade(9, a, at(0, 5, 4, 3), 5, 4, 6);
        }
        for (int a : some) {
            dueMade(2, a, at(0, 5, 4, 3), 5 + 4L * a, 4 + 6L * a, 3);
            dueMade(3, a, at(0, 5, 4, 3), 5L * a, 5 + 4L * a, 4 + 3L * a, 3);
            dueMade(4, a, at(0, 5, 4, 3), 5 + 4L * a + 3L * a * a, 4 + 6L * a, 3);
            dueMade(6, a, at(0, 5, 4, 3), 5, 4L * a, 3L * a * a);
            dueMade(7, a, at(0, 5, 4, 3), 5, 8 + 5L * a, 9 + 4L * (a - 1), 3L * (a - 2));
        }
    }

    /** "(0 at first)": of the POLYNOMIAL 0 each operator makes 0. */
    private static void operateOnZero() {
        for (int operator = 0; operator <= 9; operator++) {
            for (int a : new int[] {-1000, -1, 0, 1, 1000}) {
                dueMade(operator, a, at(0));
            }
        }
    }

    /** 0 and 1: k ck is at most 100000000 either way. */
    private static void operateDerivative() {
        for (int k = 1; k <= 8; k++) {
            for (int sign = -1; sign <= 1; sign += 2) {
                long most = sign * (LIMIT / k);
                dueMade(0, 0, at(k, most), at(k - 1, k * most));
                dueMade(1, 0, at(k, most), at(k, k * most));
                dueMade(0, 0, at(k, most - sign), at(k - 1, k * (most - sign)));
                if (k > 1) {
                    dueNotMade(0, 0, at(k, most + sign));
                    dueNotMade(1, 0, at(k, most + sign));
                    dueNotMade(0, 0, at(k, (long) sign * LIMIT));
                    dueNotMade(1, 0, at(k, (long) sign * LIMIT));
                }
            }
        }
        dueMade(0, 0, at(0, LIMIT));
        dueMade(1, 0, at(0, -LIMIT));
        dueMade(0, 0, at(0, LIMIT, 1), 1);
    }

    /** 2: ck + a (k + 1) c(k+1). */
    private static void operateWithSlope() {
        for (int k = 0; k <= 7; k++) {
            for (int a : new int[] {-1000, 1000}) {
                long next = 100000 / (k + 1);
                long slope = a * (k + 1) * next;
                long room = a < 0 ? -LIMIT - slope : LIMIT - slope;
                long out = a < 0 ? -1 : 1;
                dueMade(2, a, at(k, room, next), withSlope(a, at(k, room, next)));
                dueMade(2, a, at(k, room - out, next), withSlope(a, at(k, room - out, next)));
                dueNotMade(2, a, at(k, room + out, next));
            }
        }
        dueMade(2, 0, at(0, LIMIT, -LIMIT, LIMIT, -LIMIT, LIMIT, -LIMIT, LIMIT, -LIMIT, LIMIT),
                LIMIT, -LIMIT, LIMIT, -LIMIT, LIMIT, -LIMIT, LIMIT, -LIMIT, LIMIT);
        dueMade(2, -1, at(0, LIMIT, LIMIT), 0, LIMIT);
        dueMade(2, -2, at(0, LIMIT, LIMIT), -LIMIT, LIMIT);
        dueNotMade(2, -3, LIMIT, LIMIT);
        dueNotMade(2, 1, 1, LIMIT);
        // a times the derivative comes round as an int: 2^32
        dueNotMade(2, 128, 0, 33554432);
        dueNotMade(2, 512, 0, 0, 0, 0, 0, 0, 0, 0, 1048576);
    }

    private static long[] withSlope(int a, long[] p) {
        long[] due = p.clone();
        for (int k = 0; k < 8; k++) {
            due[k] += (long) a * (k + 1) * p[k + 1];
        }
        return due;
    }

    /** 3: a ck + c(k-1), and of DEGREE 8 nothing. */
    private static void operateUp() {
        for (int a : new int[] {-1000, -1, 0, 1, 1000}) {
            dueMade(3, a, at(7, 100000), at(7, 100000L * a, 100000));
            dueMade(3, a, at(6, 100000), at(6, 100000L * a, 100000));
            dueNotMade(3, a, at(8, 1));
            dueNotMade(3, a, at(8, -1));
            dueNotMade(3, a, at(8, LIMIT));
        }
        for (int k = 0; k <= 6; k++) {
            dueMade(3, 1000, at(k, 0, 100000), at(k, 0, LIMIT, 100000));
            dueMade(3, 1000, at(k, -1, 100000), at(k, -1000, LIMIT - 1, 100000));
            dueNotMade(3, 1000, at(k, 1, 100000));
            dueMade(3, -1000, at(k, 0, 100000), at(k, 0, -LIMIT, 100000));
            dueMade(3, -1000, at(k, 1, 100000), at(k, -1000, 1 - LIMIT, 100000));
            dueNotMade(3, -1000, at(k, -1, 100000));
            dueNotMade(3, 1000, at(k, 100001));
            dueNotMade(3, -1000, at(k, 100001));
        }
        dueMade(3, 0, at(0, LIMIT, -LIMIT, LIMIT, -LIMIT, LIMIT, -LIMIT, LIMIT, -LIMIT),
                0, LIMIT, -LIMIT, LIMIT, -LIMIT, LIMIT, -LIMIT, LIMIT, -LIMIT);
        dueMade(3, -1, at(0, LIMIT, LIMIT), -LIMIT, 0, LIMIT);
        dueNotMade(3, 128, 33554432);
    }

    /** 4: p at x + a. */
    private static void operateMoved() {
        dueMade(4, 1000, at(0, 0, 100000), LIMIT, 100000);
        dueMade(4, 1000, at(0, -1, 100000), LIMIT - 1, 100000);
        dueNotMade(4, 1000, 1, 100000);
        dueMade(4, -1000, at(0, 0, 100000), -LIMIT, 100000);
        dueMade(4, -1000, at(0, 1, 100000), 1 - LIMIT, 100000);
        dueNotMade(4, -1000, -1, 100000);
        long[] tenth = {LIMIT, 80000000, 28000000, 5600000, 700000, 56000, 2800, 80, 1};
        long[] turned = {LIMIT, -80000000, 28000000, -5600000, 700000, -56000, 2800, -80, 1};
        dueMade(4, 10, at(8, 1), tenth);
        dueMade(4, -10, at(8, 1), turned);
        dueMade(4, -10, tenth, at(8, 1));
        dueMade(4, 10, turned, at(8, 1));
        dueNotMade(4, 10, 1, 0, 0, 0, 0, 0, 0, 0, 1);
        dueMade(4, 10, at(0, -1, 0, 0, 0, 0, 0, 0, 0, 1), LIMIT - 1, 80000000, 28000000, 5600000, 700000, 56000, 2800,
                80, 1);
        dueNotMade(4, 11, at(8, 1));
        dueNotMade(4, 10, tenth);
        // only a number in the midst is beyond: 100000001 = 3 a a c3 + 2 a c2 + c1
        dueMade(4, 1, at(0, 0, LIMIT - 3, 0, 1), LIMIT - 2, LIMIT, 3, 1);
        dueNotMade(4, 1, 0, LIMIT - 2, 0, 1);
        dueNotMade(4, 1, -LIMIT, LIMIT - 2, 0, 1);
        dueNotMade(4, 1, -LIMIT, LIMIT, LIMIT / 3);
        // the numbers on the way are beyond, what comes out is not
        dueMade(4, 1, at(0, LIMIT, -LIMIT), 0, -LIMIT);
        dueMade(4, 1000, at(0, 99000000, -198000, 99), 0, 0, 99);
        dueMade(4, -1000, at(0, LIMIT, 200000, 100), 0, 0, 100);
        dueMade(4, 1000, at(0, LIMIT, -200000, 100), 0, 0, 100);
        dueNotMade(4, 1000, LIMIT, 200000, 100);
        for (int a : new int[] {-1000, -256, -16, 16, 256, 512, 1000}) {
            // a to the power of 8 comes round as an int or as a long
            dueNotMade(4, a, at(8, 1));
            dueNotMade(4, a, at(8, LIMIT));
        }
        long[] all = {LIMIT, -LIMIT, LIMIT, -LIMIT, LIMIT, -LIMIT, LIMIT, -LIMIT, LIMIT};
        dueMade(4, 0, all, all);
        dueNotMade(4, -1, all);
        dueNotMade(4, 1, all);
        dueNotMade(4, 1000, all);
        dueMade(4, 1000, at(0, -LIMIT), -LIMIT);
    }

    /** 5: "the ROW turned round (c0 to cn change places)": n is the DEGREE. */
    private static void operateTurned() {
        for (int n = 0; n <= 8; n++) {
            long[] p = new long[9];
            long[] due = new long[9];
            for (int k = 0; k <= n; k++) {
                p[k] = k + 1;
                due[n - k] = k + 1;
            }
            dueMade(5, 0, p, due);
            dueMade(5, 0, at(n, 7), 7);
            dueMade(5, 0, at(n, -LIMIT), -LIMIT);
            if (n > 0) {
                p[0] = 0;
                due[n] = 0;
                dueMade(5, 0, p, due);
                p[0] = LIMIT;
                due[n] = LIMIT;
                dueMade(5, 0, p, due);
            }
        }
    }

    /** 6: "ck times a to the power of k". */
    private static void operateStretched() {
        long[] all = {LIMIT, LIMIT, LIMIT, LIMIT, LIMIT, LIMIT, LIMIT, LIMIT, LIMIT};
        dueMade(6, 1, all, all);
        dueMade(6, -1, all, LIMIT, -LIMIT, LIMIT, -LIMIT, LIMIT, -LIMIT, LIMIT, -LIMIT, LIMIT);
        dueMade(6, 0, all, LIMIT);
        dueNotMade(6, 2, all);
        dueNotMade(6, -2, all);
        dueMade(6, 1000, at(0, LIMIT), LIMIT);
        int[] bases = {2, 3, 10, 11, 31, 1000};
        for (int k = 1; k <= 8; k++) {
            for (int base : bases) {
                long power = 1;
                for (int j = 0; j < k && power <= LIMIT; j++) {
                    power *= base;
                }
                long most = LIMIT / power;
                long turned = k % 2 == 0 ? power : -power;
                if (most > 0) {
                    dueMade(6, base, at(k, most), at(k, most * power));
                    dueMade(6, base, at(k, -most), at(k, -most * power));
                    dueMade(6, -base, at(k, most), at(k, most * turned));
                    dueMade(6, -base, at(k, -most), at(k, -most * turned));
                }
                dueNotMade(6, base, at(k, most + 1));
                dueNotMade(6, base, at(k, -most - 1));
                dueNotMade(6, -base, at(k, most + 1));
                dueNotMade(6, -base, at(k, -most - 1));
            }
        }
        // 16^8 comes round as an int, 256^8 as a long
        for (int a : new int[] {-512, -256, -16, 16, 256, 512}) {
            dueNotMade(6, a, at(8, 1));
            dueNotMade(6, a, at(8, -1));
            dueNotMade(6, a, at(8, LIMIT));
        }
        dueNotMade(6, 1000, at(8, LIMIT));
        dueNotMade(6, -1000, at(7, LIMIT));
    }

    /** 7: (k + 1) ck + (a - k + 1) c(k-1), and at x^9 (a - 8) c8. */
    private static void operateEuler() {
        dueMade(7, 8, at(8, 1), at(8, 9));
        dueNotMade(7, 7, at(8, 1));
        dueNotMade(7, 9, at(8, 1));
        dueNotMade(7, 0, at(8, 1));
        dueNotMade(7, -8, at(8, 1));
        dueMade(7, 6, at(7, 1), at(7, 8, -1));
        dueMade(7, 7, at(7, 1), at(7, 8));
        dueMade(7, 8, at(7, 1), at(7, 8, 1));
        for (int k = 0; k <= 8; k++) {
            // by a = k there is nothing at the power above
            long most = LIMIT / (k + 1);
            dueMade(7, k, at(k, most), at(k, (k + 1) * most));
            dueMade(7, k, at(k, -most), at(k, -(k + 1) * most));
            if (k > 0) {
                dueNotMade(7, k, at(k, most + 1));
                dueNotMade(7, k, at(k, -most - 1));
            }
        }
        for (int k = 0; k <= 7; k++) {
            // the power above has (a - k) ck
            dueMade(7, k + 100, at(k, 1000000), at(k, 1000000L * (k + 1), LIMIT));
            dueNotMade(7, k + 101, at(k, 1000000));
            dueMade(7, k - 100, at(k, 1000000), at(k, 1000000L * (k + 1), -LIMIT));
            dueNotMade(7, k - 101, at(k, 1000000));
        }
        dueMade(7, 1, at(0, 0, 50000000), 0, LIMIT);
        dueMade(7, 1, at(0, -1, 50000000), -1, LIMIT - 1);
        dueNotMade(7, 1, 1, 50000000);
        dueMade(7, -1, at(0, LIMIT), LIMIT, -LIMIT);
        dueNotMade(7, -2, LIMIT);
        dueNotMade(7, 1000, LIMIT);
    }

    /** 8: c(k-1) + k ck, and of DEGREE 8 nothing. */
    private static void operateTouchard() {
        dueNotMade(8, 0, at(8, 1));
        dueNotMade(8, 0, at(8, -LIMIT));
        dueMade(8, 0, at(7, 1), at(7, 7, 1));
        for (int k = 1; k <= 7; k++) {
            long most = LIMIT / k;
            dueMade(8, 0, at(k, most), at(k, k * most, most));
            dueMade(8, 0, at(k, -most), at(k, -k * most, -most));
            if (k > 1) {
                dueNotMade(8, 0, at(k, most + 1));
                dueNotMade(8, 0, at(k, -most - 1));
            }
        }
        dueMade(8, 0, at(0, LIMIT), 0, LIMIT);
        dueMade(8, 0, at(0, LIMIT, -1), 0, LIMIT - 1, -1);
        dueNotMade(8, 0, LIMIT, 1);
        dueMade(8, 0, at(0, -LIMIT, 1), 0, 1 - LIMIT, 1);
        dueNotMade(8, 0, -LIMIT, -1);
    }

    /** 9: "ck times k (k - 1) .. 1". */
    private static void operateFactorials() {
        long[] factorials = {1, 1, 2, 6, 24, 120, 720, 5040, 40320};
        for (int k = 0; k <= 8; k++) {
            long most = LIMIT / factorials[k];
            dueMade(9, 0, at(k, 1), at(k, factorials[k]));
            dueMade(9, 0, at(k, most), at(k, factorials[k] * most));
            dueMade(9, 0, at(k, -most), at(k, -factorials[k] * most));
            if (k > 1) {
                dueNotMade(9, 0, at(k, most + 1));
                dueNotMade(9, 0, at(k, -most - 1));
                dueNotMade(9, 0, at(k, LIMIT));
            }
        }
    }

    // ---- Promise 8

    private static void dueNotJoined(int tray, int one, int other, int a, int b) {
        String call = "join(" + tray + ", " + one + ", " + other + ", " + a + ", " + b + ")";
        Twin.stays(check, call, Twin::fill, rows -> check.due(call, rows.join(tray, one, other, a, b), false));
    }

    /** "(a, b -1000 to 1000): likewise": false, and all stays. */
    private static void joinFactors() {
        int[] within = {-1000, -999, 0, 999, 1000};
        for (int a : within) {
            for (int b : within) {
                RootRows rows = new RootRows();
                put(rows, 0, 1, 2);
                put(rows, 1, 3, 0, 5);
                check.due("join by " + a + ", " + b, rows.join(2, 0, 1, a, b), true);
                dueRow("join by " + a + ", " + b, rows, 2, a + 3L * b, 2L * a, 5L * b);
            }
        }
        for (int wrong : NO_FACTORS) {
            dueNotJoined(3, 0, 1, wrong, 1);
            dueNotJoined(3, 0, 1, 1, wrong);
            dueNotJoined(3, 0, 1, wrong, wrong);
            dueNotJoined(3, 7, 7, wrong, 0);
            dueNotJoined(3, 7, 7, 0, wrong);
        }
    }

    private static void dueJoined(long p, long q, int a, int b) {
        long sum = a * p + b * q;
        boolean fits = sum >= -LIMIT && sum <= LIMIT;
        for (int k = 0; k <= 8; k += 4) {
            int power = k;
            String call = "join " + a + " times " + p + " and " + b + " times " + q + " at x^" + k;
            RootRows rows = new RootRows();
            rows.put(0, k, (int) p);
            rows.put(1, k, (int) q);
            put(rows, 2, 1, 1, 1, 1, 1, 1, 1, 1, 1);
            check.due(call, rows.join(2, 0, 1, a, b), fits);
            if (fits) {
                dueRow(call, rows, 2, at(k, sum));
            } else {
                dueRow(call, rows, 2, 1, 1, 1, 1, 1, 1, 1, 1, 1);
                Twin.stays(check, call,
                    other -> {
                        Twin.fill(other);
                        put(other, 0, at(power, p));
                        put(other, 1, at(power, q));
                    },
                    other -> check.due(call, other.join(0, 0, 1, a, b), false));
            }
        }
    }

    private static void joinLimit() {
        for (int off = -1; off <= 1; off++) {
            dueJoined(LIMIT - 1, 1 + off, 1, 1);
            dueJoined(1 - LIMIT, -1 - off, 1, 1);
            dueJoined(100000 + off, 0, 1000, 1);
            dueJoined(100000 + off, 0, -1000, 1);
            dueJoined(0, 100000 + off, -1000, 1000);
            dueJoined(100000, off, 1000, 1);
            dueJoined(100000, off, -1000, 1);
            dueJoined(LIMIT, off, 1, 1);
            dueJoined(LIMIT, off, -1, -1);
            dueJoined(50000000 + off, 50000000, 1, 1);
        }
        dueJoined(LIMIT, LIMIT, 1000, -999);
        dueJoined(LIMIT, LIMIT, 1000, -1000);
        dueJoined(LIMIT, LIMIT, 999, -1000);
        dueJoined(LIMIT, -LIMIT, 1000, 998);
        dueJoined(LIMIT, LIMIT, 1000, 1000);
        // the products come round as ints
        dueJoined(33554432, 0, 128, 0);
        dueJoined(42949673, 0, 100, 0);
        dueJoined(67108864, 67108864, 32, 32);
    }

    private static void joinTrays() {
        for (int none : NO_TRAYS) {
            dueNotJoined(none, 0, 1, 1, 1);
            dueNotJoined(0, none, 1, 1, 1);
            dueNotJoined(0, 1, none, 1, 1);
            dueNotJoined(0, 1, none, 1, 0);
            dueNotJoined(0, none, 1, 0, 1);
        }
        int[] ends = {0, 7};
        for (int tray : ends) {
            for (int one : ends) {
                for (int other : ends) {
                    RootRows rows = new RootRows();
                    put(rows, 0, 1, 2);
                    put(rows, 7, 0, 0, 3);
                    check.due("join at the ends", rows.join(tray, one, other, 10, 1), true);
                    long[] due = new long[9];
                    int[] both = {one, other};
                    for (int k = 0; k < 2; k++) {
                        long factor = k == 0 ? 10 : 1;
                        due[0] += both[k] == 0 ? factor : 0;
                        due[1] += both[k] == 0 ? 2 * factor : 0;
                        due[2] += both[k] == 7 ? 3 * factor : 0;
                    }
                    dueRow("join(" + tray + ", " + one + ", " + other + ")", rows, tray, due);
                }
            }
        }
    }

    // ---- Promise 9

    /** "likewise": of DEGREE above 8 it is no POLYNOMIAL; 0 times anything is one. */
    private static void timesDegree() {
        for (int n = 0; n <= 8; n++) {
            for (int m = 0; m <= 8; m++) {
                int high = n;
                int low = m;
                String call = "x^" + n + " times x^" + m;
                RootRows rows = new RootRows();
                rows.put(0, n, 2);
                rows.put(1, m, -3);
                check.due(call, rows.times(2, 0, 1), n + m <= 8);
                dueRow(call, rows, 2, n + m <= 8 ? at(n + m, -6) : at(0));
                if (n + m > 8) {
                    Twin.stays(check, call,
                        other -> {
                            Twin.fill(other);
                            put(other, 0, at(high, 2));
                            put(other, 1, at(low, -3));
                        },
                        other -> {
                            check.due(call, other.times(1, 0, 1), false);
                            check.due(call, other.times(5, 1, 0), false);
                        });
                }
            }
            RootRows rows = new RootRows();
            rows.put(0, n, LIMIT);
            put(rows, 2, 5, 5, 5, 5, 5, 5, 5, 5, 5);
            check.due("x^" + n + " times 0", rows.times(2, 0, 1), true);
            dueRow("x^" + n + " times 0", rows, 2);
            put(rows, 2, 5, 5, 5, 5, 5, 5, 5, 5, 5);
            check.due("0 times x^" + n, rows.times(2, 1, 0), true);
            dueRow("0 times x^" + n, rows, 2);
        }
    }

    private static void dueProduct(long[] p, long[] q, boolean fits, long... due) {
        String call = java.util.Arrays.toString(p) + " times " + java.util.Arrays.toString(q);
        RootRows rows = new RootRows();
        put(rows, 0, p);
        put(rows, 1, q);
        put(rows, 2, 1, 1, 1, 1, 1, 1, 1, 1, 1);
        check.due(call, rows.times(2, 0, 1), fits);
        dueRow(call, rows, 2, fits ? due : new long[] {1, 1, 1, 1, 1, 1, 1, 1, 1});
        if (!fits) {
            Twin.stays(check, call,
                other -> {
                    Twin.fill(other);
                    put(other, 0, p);
                    put(other, 1, q);
                },
                other -> {
                    check.due(call, other.times(0, 0, 1), false);
                    check.due(call, other.times(0, 1, 0), false);
                });
        }
    }

    private static void timesLimit() {
        dueProduct(at(0, 10000, 1), at(0, 10000, -1), true, LIMIT, 0, -1);
        dueProduct(at(0, 10000, 1), at(0, -10000, 1), true, -LIMIT, 0, 1);
        dueProduct(at(0, 10000), at(0, 9999), true, 99990000);
        dueProduct(at(0, 10000), at(0, 10001), false);
        dueProduct(at(0, 10000), at(0, -10001), false);
        dueProduct(at(4, 10000), at(4, 10000), true, at(8, LIMIT));
        dueProduct(at(4, 10000), at(4, 10001), false);
        dueProduct(at(0, 1, LIMIT - 2), at(0, 1, 1), true, 1, LIMIT - 1, LIMIT - 2);
        dueProduct(at(0, 1, LIMIT - 1), at(0, 1, 1), true, 1, LIMIT, LIMIT - 1);
        dueProduct(at(0, 1, LIMIT), at(0, 1, 1), false);
        dueProduct(at(0, -1, 1 - LIMIT), at(0, 1, 1), true, -1, -LIMIT, 1 - LIMIT);
        dueProduct(at(0, -1, -LIMIT), at(0, 1, 1), false);
        dueProduct(at(0, LIMIT, LIMIT), at(0, -1, 1), true, -LIMIT, 0, LIMIT);
        dueProduct(at(0, LIMIT), at(8, 1), true, at(8, LIMIT));
        dueProduct(at(0, LIMIT), at(8, 2), false);
        dueProduct(at(0, LIMIT), at(0, LIMIT), false);
        // the products come round as ints: 2^32
        dueProduct(at(0, 65536), at(0, 65536), false);
        dueProduct(at(0, 65536), at(8, -65536), false);
        dueProduct(at(0, 65536, 65536), at(0, 32768, 32768), false);
    }

    private static void timesTrays() {
        for (int none : NO_TRAYS) {
            int[][] calls = {{none, 0, 1}, {0, none, 1}, {0, 1, none}, {none, none, none}};
            for (int[] c : calls) {
                String call = "times(" + c[0] + ", " + c[1] + ", " + c[2] + ")";
                Twin.stays(check, call, Twin::fill, rows -> check.due(call, rows.times(c[0], c[1], c[2]), false));
            }
        }
        int[] ends = {0, 7};
        for (int tray : ends) {
            for (int one : ends) {
                for (int other : ends) {
                    RootRows rows = new RootRows();
                    put(rows, 0, 0, 2);
                    put(rows, 7, 0, 0, 3);
                    check.due("times at the ends", rows.times(tray, one, other), true);
                    int power = (one == 0 ? 1 : 2) + (other == 0 ? 1 : 2);
                    long due = (one == 0 ? 2 : 3) * (other == 0 ? 2 : 3);
                    dueRow("times(" + tray + ", " + one + ", " + other + ")", rows, tray, at(power, due));
                }
            }
        }
    }
}
