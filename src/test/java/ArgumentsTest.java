/**
 * "Every answer holds for every run of calls on one object: all arguments, in any state, up to the 512 calls": each
 * question with every pair and triple of arguments from a list of edges, in several states, held against the model;
 * and each call as the 512th one.
 */
public final class ArgumentsTest {
    private static final Check check = new Check();
    private static final int CALLS = 512;
    private static final int[] EDGES = {Integer.MIN_VALUE, Integer.MIN_VALUE + 1, -100000001, -100000000, -1001, -13, -9,
        -3, -2, -1, 0, 1, 2, 3, 4, 5, 6, 7, 8, 9, 10, 12, 13, 14, 256, 1001, 100000000, 100000001,
        Integer.MAX_VALUE - 1, Integer.MAX_VALUE};

    private static final int[][][] STATES = {
        {},
        {{5}, {0, 1}, {-1, 0, 1}, {1, -3, 0, 1}, {1, 0, -2, 0, 1}, {0, 0, 0, 0, 0, 1}, {-1, 0, 0, 0, 0, 0, 1},
            {0, 0, 0, -12, 16, 5, -10, 0, 1}},
        {{-100000000}, {-100000000, 1}, {-100000000, -100000000, 1}, {1, 100000000}, {1, 0, 0, 0, 0, 0, 0, 0, 100000000},
            {-100000000, 0, 0, 0, 0, 0, 0, 0, 1}, {0, 0, 0, 0, 0, 0, 0, 0, -100000000},
            {100000000, -100000000, 100000000, -100000000, 100000000, -100000000, 100000000, -100000000, 100000000}},
        {{1, 2, 1}, {1, 3, 3, 1}, {1, 4, 6, 4, 1}, {1, 5, 10, 10, 5, 1}, {1, 6, 15, 20, 15, 6, 1}, {},
            {1, 1, 1, 1, 1, 1, 1, 1, 1}, {105, 0, -420, 0, 210, 0, -28, 0, 1}},
    };

    private final int[][] state;
    private RootRows rows;
    private Model model;
    private int called;

    private ArgumentsTest(int[][] given) {
        state = given;
        renew();
    }

    public static void main(String[] args) {
        for (int[][] given : STATES) {
            ArgumentsTest test = new ArgumentsTest(given);
            for (int x : EDGES) {
                test.askOne(x);
                for (int y : EDGES) {
                    test.askTwo(x, y);
                    for (int z : EDGES) {
                        test.askThree(x, y, z);
                    }
                }
            }
        }
        for (int kind = 0; kind < 20; kind++) {
            lastCall(kind);
        }
        check.finish("ArgumentsTest");
    }

    private void renew() {
        rows = new RootRows();
        model = new Model();
        called = 0;
        for (int tray = 0; tray < state.length; tray++) {
            for (int k = 0; k < state[tray].length; k++) {
                rows.put(tray, k, state[tray][k]);
                model.put(tray, k, state[tray][k]);
                called++;
            }
        }
    }

    /** An object is asked no more than it may be. */
    private void room(int calls) {
        if (called + calls > CALLS) {
            renew();
        }
        called += calls;
    }

    private void due(String call, long got, long want) {
        check.due(call + " of " + java.util.Arrays.deepToString(state), got, want);
    }

    private void askOne(int x) {
        room(3);
        due("fails(" + x + ")", rows.fails(x), model.fails(x));
        due("mean(" + x + ")", rows.mean(x, false), model.mean(x, false));
        due("mean(" + x + "), lower", rows.mean(x, true), model.mean(x, true));
    }

    private void askTwo(int x, int y) {
        room(6);
        String of = "(" + x + ", " + y + ")";
        due("number" + of, rows.number(x, y), model.number(x, y));
        due("count" + of, rows.count(x, y), model.count(x, y));
        due("often" + of, rows.often(x, y), model.often(x, y));
        due("laced" + of, rows.laced(x, y), model.laced(x, y));
        due("chain" + of, rows.chain(x, y), model.chain(x, y));
        due("row" + of, rows.row(x, y), model.row(x, y));
    }

    private void askThree(int x, int y, int z) {
        room(4);
        String of = "(" + x + ", " + y + ", " + z + ")";
        due("root" + of, rows.root(x, y, z), model.root(x, y, z));
        due("between" + of, rows.between(x, y, z), model.between(x, y, z));
        due("sign" + of, rows.sign(x, y, z), model.sign(x, y, z));
        due("member" + of, rows.member(x, y, z), model.member(x, y, z));
    }

    /** Behind 511 calls of all kinds the 512th still answers as it should. */
    private static void lastCall(int kind) {
        RootRows rows = new RootRows();
        int calls = 0;
        while (calls + 12 <= CALLS - 12) {
            rows.feed(0x785e3220, 0x2d203220, 0x20202020, 0x20202020, 0x20202020);
            rows.read(calls % 8);
            rows.put(calls % 8, calls % 9, calls);
            rows.operate(calls % 7, calls % 8, calls % 10, 2);
            rows.join(calls % 5, calls % 8, calls % 3, 2, 3);
            rows.times(calls % 3, calls % 8, calls % 4);
            rows.root(calls % 8, 0, 12);
            rows.often(calls % 8, 0);
            rows.between(calls % 8, -9, 9);
            rows.laced(calls % 8, 1);
            rows.chain(0, 7);
            rows.row(calls % 8, 0);
            calls += 12;
        }
        // x x - 2 in tray 7, x in tray 6
        int[][] puts = {{7, 8}, {7, 7}, {7, 6}, {7, 5}, {7, 4}, {7, 3}};
        for (int[] p : puts) {
            rows.put(p[0], p[1], 0);
        }
        rows.feed(0x785e3220, 0x2d203220, 0x20202020, 0x20202020, 0x20202020);
        rows.read(7);
        rows.feed(0x78202020, 0x20202020, 0x20202020, 0x20202020, 0x20202020);
        rows.read(6);
        calls += 10;
        while (calls < CALLS - 1) {
            rows.fault();
            calls++;
        }
        check.due("call " + (calls + 1) + " of kind " + kind, ask(rows, kind), DUE_LAST[kind]);
    }

    private static final long[] DUE_LAST = {20, 1, 0, 0, 1, 1, 1, 0, -2, 2, 5792, 1, 1, 0, 1, -1, 0, -1, 4, 0};

    private static long ask(RootRows rows, int kind) {
        switch (kind) {
            case 0:
                return rows.feed(0, 0, 0, 0, 0);
            case 1:
                return rows.end(0) ? 1 : 0;
            case 2:
                return rows.read(0) ? 1 : 0;
            case 3:
                return rows.fault();
            case 4:
                return rows.put(7, 0, 1) ? 1 : 0;
            case 5:
                return rows.operate(7, 7, 3, 1000) ? 1 : 0;
            case 6:
                return rows.join(7, 7, 6, 1000, -1000) ? 1 : 0;
            case 7:
                return rows.times(8, 7, 7) ? 1 : 0;
            case 8:
                return rows.number(7, 0);
            case 9:
                return rows.count(7, 1);
            case 10:
                return rows.root(7, 1, 12);
            case 11:
                return rows.often(7, 1);
            case 12:
                return rows.between(7, 1, 2);
            case 13:
                return rows.sign(6, 0, 12);
            case 14:
                return rows.laced(7, 6);
            case 15:
                return rows.chain(6, 7);
            case 16:
                return rows.member(7, 2, 0);
            case 17:
                return rows.fails(7);
            case 18:
                return rows.row(7, 4);
            default:
                return rows.mean(6, true) - 1;
        }
    }
}
