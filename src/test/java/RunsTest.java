import java.util.Random;

/** Runs of 512 calls on one object, told by a fixed seed, each answer held against the model's. */
public final class RunsTest {
    private static final int RUNS = 60;
    private static final int CALLS = 512;

    private static final Check check = new Check();

    private final Random random;
    private final int run;
    private final RootRows rows = new RootRows();
    private final Model model = new Model();

    private RunsTest(int number) {
        run = number;
        random = new Random(1000 + number);
    }

    public static void main(String[] args) {
        int runs = args.length > 0 ? Integer.parseInt(args[0]) : RUNS;
        for (int run = 0; run < runs; run++) {
            RunsTest test = new RunsTest(run);
            for (int k = 0; k < CALLS; k++) {
                test.call(k);
            }
        }
        check.finish("RunsTest");
    }

    private int below(int n) {
        return random.nextInt(n);
    }

    private int wild() {
        int[] some = {-1, 8, 9, 10, 13, 200, 201, 1001, -1001, 100000001, -100000001,
            Integer.MAX_VALUE, Integer.MIN_VALUE};
        return some[below(some.length)];
    }

    /** From 0 to n - 1, seldom something else. */
    private int upTo(int n) {
        return below(40) == 0 ? wild() : below(n);
    }

    private int tray() {
        return upTo(8);
    }

    private int factor() {
        int kind = below(40);
        if (kind == 0) {
            return wild();
        }
        return kind < 4 ? below(2001) - 1000 : below(9) - 4;
    }

    private int number() {
        switch (below(12)) {
            case 0:
                return wild();
            case 1:
                return 100000000 - below(3);
            case 2:
                return below(3) - 100000000;
            case 3:
                return below(200000001) - 100000000;
            case 4:
                return below(20001) - 10000;
            default:
                return below(13) - 6;
        }
    }

    private void due(String call, long got, long want) {
        check.due("run " + run + ": " + call, got, want);
    }

    private static long as(boolean answer) {
        return answer ? 1 : 0;
    }

    private void call(int k) {
        int kind = below(100);
        if (kind < 8) {
            readText();
        } else if (kind < 12) {
            feedOrEnd();
        } else if (kind < 20) {
            int t = tray();
            int power = upTo(9);
            int v = number();
            due("put(" + t + ", " + power + ", " + v + ")", as(rows.put(t, power, v)), as(model.put(t, power, v)));
        } else if (kind < 34) {
            int t = tray();
            int from = tray();
            int operator = below(4) == 0 ? 3 : upTo(10);
            int a = factor();
            due("operate(" + t + ", " + from + ", " + operator + ", " + a + ")",
                    as(rows.operate(t, from, operator, a)), as(model.operate(t, from, operator, a)));
        } else if (kind < 40) {
            joinOrMultiply();
        } else {
            ask(kind);
        }
        if (k % 16 == 0) {
            for (int t = 0; t < 8; t++) {
                for (int power = 0; power <= 8; power++) {
                    due("number(" + t + ", " + power + ")", rows.number(t, power), model.number(t, power));
                }
            }
        }
    }

    private void joinOrMultiply() {
        int t = tray();
        int one = tray();
        int other = tray();
        if (below(2) == 0) {
            int a = factor();
            int b = factor();
            due("join(" + t + ", " + one + ", " + other + ", " + a + ", " + b + ")",
                    as(rows.join(t, one, other, a, b)), as(model.join(t, one, other, a, b)));
        } else {
            due("times(" + t + ", " + one + ", " + other + ")",
                    as(rows.times(t, one, other)), as(model.times(t, one, other)));
        }
    }

    private void feedOrEnd() {
        if (below(3) == 0) {
            int n = below(4) == 0 ? wild() : below(202);
            due("end(" + n + ")", as(rows.end(n)), as(model.end(n)));
            return;
        }
        int a = random.nextInt();
        int b = below(2) == 0 ? 0x20312d78 : random.nextInt();
        due("feed", rows.feed(a, b, b, 0x20202020, b), model.feed(a, b, b, 0x20202020, b));
    }

    private void readText() {
        due("end(0)", as(rows.end(0)), as(model.end(0)));
        String text = text();
        for (int k = 0; k < text.length(); k += 20) {
            int[] w = new int[5];
            for (int j = 0; j < 20; j++) {
                int sign = k + j < text.length() ? text.charAt(k + j) : ' ';
                w[j / 4] = w[j / 4] << 8 | sign;
            }
            due("feed", rows.feed(w[0], w[1], w[2], w[3], w[4]), model.feed(w[0], w[1], w[2], w[3], w[4]));
        }
        due("end", as(rows.end(text.length())), as(model.end(text.length())));
        int t = tray();
        due("read(" + t + ") of " + text, as(rows.read(t)), as(model.read(t)));
        due("fault() of " + text, rows.fault(), model.fault());
    }

    private String text() {
        StringBuilder text = new StringBuilder();
        int terms = 1 + below(6);
        if (below(3) == 0) {
            text.append('-');
        }
        for (int k = 0; k < terms; k++) {
            if (k > 0) {
                text.append(below(2) == 0 ? '+' : '-');
            }
            int kind = below(3);
            if (kind < 2) {
                text.append(Math.abs((long) number()) % 100000000);
            }
            if (kind > 0) {
                text.append('x');
                if (below(2) == 0) {
                    text.append('^').append(below(20) == 0 ? 9 : below(9));
                }
            }
            if (below(4) == 0) {
                text.append(below(2) == 0 ? ' ' : '\n');
            }
        }
        int spoils = below(3) == 0 ? 1 + below(2) : 0;
        for (int k = 0; k < spoils; k++) {
            String signs = "xX^+-0189 \n*";
            text.insert(below(text.length() + 1), signs.charAt(below(signs.length())));
        }
        return text.toString();
    }

    private void ask(int kind) {
        int t = tray();
        int k = upTo(8);
        int s = upTo(13);
        if (kind < 46) {
            due("count(" + t + ", " + k + ")", rows.count(t, k), model.count(t, k));
        } else if (kind < 54) {
            due("root(" + t + ", " + k + ", " + s + ")", rows.root(t, k, s), model.root(t, k, s));
        } else if (kind < 60) {
            due("often(" + t + ", " + k + ")", rows.often(t, k), model.often(t, k));
        } else if (kind < 66) {
            int a = number() % 100000001;
            int b = below(4) == 0 ? number() : a + below(20);
            due("between(" + t + ", " + a + ", " + b + ")", rows.between(t, a, b), model.between(t, a, b));
        } else if (kind < 70) {
            int x = below(5) == 0 ? random.nextInt() : number();
            due("sign(" + t + ", " + x + ", " + s + ")", rows.sign(t, x, s), model.sign(t, x, s));
        } else if (kind < 76) {
            int other = tray();
            due("laced(" + t + ", " + other + ")", rows.laced(t, other), model.laced(t, other));
        } else if (kind < 78) {
            int to = tray();
            due("chain(" + t + ", " + to + ")", rows.chain(t, to), model.chain(t, to));
        } else if (kind < 84) {
            int what = upTo(2);
            due("member(" + t + ", " + k + ", " + what + ")", rows.member(t, k, what), model.member(t, k, what));
        } else if (kind < 88) {
            due("fails(" + t + ")", rows.fails(t), model.fails(t));
        } else if (kind < 95) {
            int what = upTo(5);
            due("row(" + t + ", " + what + ")", rows.row(t, what), model.row(t, what));
        } else {
            boolean lower = below(2) == 0;
            due("mean(" + t + ", " + lower + ")", rows.mean(t, lower), model.mean(t, lower));
        }
    }
}
