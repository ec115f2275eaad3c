/**
 * Rows of counts whose polynomials have only real roots.
 *
 * The document ../shared/DOC.md says what each call answers. All answers are exact: real roots are
 * counted with sequences of remainders in whole numbers of any size (Sequence, Big), and the roots
 * are placed by halving on the grid of the 4096th parts (Placer).
 *
 * Everything that a call needs is made in the constructor, so that a call makes no object.
 */
public final class RootRows {
    public static final int NONE = -1;
    public static final long NO_NUMBER = -1000000000000000000L;

    private static final int NOT_SUCH = -2;
    private static final int TRAYS = 8;
    private static final int TOP_POWER = 8;
    private static final int WIDTH = 9;
    private static final int PRODUCT_WIDTH = 17;
    private static final long LIMIT = 100000000L;
    private static final int FACTOR_LIMIT = 1000;
    private static final int FINEST = 12;

    private final Tray[] trays;
    private final Tape tape;
    private final Maker maker;
    private final Levels levels;
    private final Placer placer;
    private final Sequence sequence;
    private final Point point;

    public RootRows() {
        trays = new Tray[TRAYS];
        for (int k = 0; k < TRAYS; k++) {
            trays[k] = new Tray();
        }
        tape = new Tape();
        maker = new Maker();
        sequence = new Sequence();
        point = new Point();
        levels = new Levels(sequence);
        placer = new Placer(levels, sequence, point);
    }

    // ---- what comes in a tray

    public int feed(int a, int b, int c, int d, int e) {
        if (!tape.hasRoom()) {
            return NONE;
        }
        tape.append(a);
        tape.append(b);
        tape.append(c);
        tape.append(d);
        tape.append(e);
        return tape.length;
    }

    public boolean end(int n) {
        if (n < 0 || n > tape.length) {
            return false;
        }
        tape.length = n;
        return true;
    }

    public boolean read(int tray) {
        if (!isTray(tray)) {
            return false;
        }
        tape.parse();
        tape.length = 0;
        if (tape.latestFault != 0) {
            return false;
        }
        trays[tray].take(tape.told);
        return true;
    }

    public int fault() {
        return tape.latestFault;
    }

    public boolean put(int tray, int k, int v) {
        if (!isTray(tray) || !isPower(k) || v > LIMIT || v < -LIMIT) {
            return false;
        }
        trays[tray].change(k, v);
        return true;
    }

    public boolean operate(int tray, int from, int operator, int a) {
        if (!isTray(tray) || !isTray(from) || !isFactor(a)) {
            return false;
        }
        if (!maker.apply(trays[from].numbers, operator, a)) {
            return false;
        }
        trays[tray].take(maker.made);
        return true;
    }

    public boolean join(int tray, int one, int other, int a, int b) {
        if (!isTray(tray) || !isTray(one) || !isTray(other) || !isFactor(a) || !isFactor(b)) {
            return false;
        }
        if (!maker.sum(trays[one].numbers, trays[other].numbers, a, b)) {
            return false;
        }
        trays[tray].take(maker.made);
        return true;
    }

    public boolean times(int tray, int one, int other) {
        if (!isTray(tray) || !isTray(one) || !isTray(other)) {
            return false;
        }
        if (!maker.product(trays[one].numbers, trays[other].numbers)) {
            return false;
        }
        trays[tray].take(maker.made);
        return true;
    }

    // ---- what is there

    public long number(int tray, int k) {
        if (!isTray(tray) || !isPower(k)) {
            return NO_NUMBER;
        }
        return trays[tray].numbers[k];
    }

    public int count(int tray, int what) {
        if (!isTray(tray) || what < 0 || what > 7) {
            return NONE;
        }
        Tray asked = trays[tray];
        int degree = Numbers.degreeOf(asked.numbers);
        if (what == 0) {
            return degree;
        }
        if (what == 7) {
            return Rows.isCounts(asked.numbers) ? 1 : 0;
        }
        levels.prove(asked);
        switch (what) {
            case 1:
                return asked.roots;
            case 2:
                return degree < 0 ? NONE : degree - asked.roots;
            case 3:
                return asked.unlike;
            case 4:
                return asked.most;
            case 5:
                return asked.whole ? 1 : 0;
            default:
                return asked.members;
        }
    }

    public long root(int tray, int k, int s) {
        if (!isTray(tray) || !isFineness(s)) {
            return NO_NUMBER;
        }
        Tray asked = trays[tray];
        levels.prove(asked);
        placer.place(asked);
        int place = asked.placeOfRoot(k);
        if (place < 0 || place >= TOP_POWER) {
            return NO_NUMBER;
        }
        return asked.floorOf(place) >> (FINEST - s);
    }

    public int often(int tray, int k) {
        if (!isTray(tray)) {
            return NONE;
        }
        Tray asked = trays[tray];
        levels.prove(asked);
        placer.place(asked);
        int place = asked.placeOfRoot(k);
        if (place < 0 || place >= TOP_POWER) {
            return NONE;
        }
        return asked.repeats[place];
    }

    public int between(int tray, int a, int b) {
        if (!isTray(tray) || a > b) {
            return NONE;
        }
        Tray asked = trays[tray];
        levels.prove(asked);
        placer.place(asked);
        return asked.rootsUpTo(b) - asked.rootsUpTo(a);
    }

    public int sign(int tray, int x, int s) {
        if (!isTray(tray) || !isFineness(s)) {
            return NOT_SUCH;
        }
        point.move(x, s);
        return point.signOf(trays[tray].numbers);
    }

    // ---- lacing, proofs

    public int laced(int one, int other) {
        if (!isTray(one) || !isTray(other)) {
            return NONE;
        }
        levels.prove(trays[one]);
        levels.prove(trays[other]);
        return areLaced(trays[one], trays[other]) ? 1 : 0;
    }

    public int chain(int from, int to) {
        if (!isTray(from) || !isTray(to)) {
            return NOT_SUCH;
        }
        for (int k = from; k < to; k++) {
            levels.prove(trays[k + 1]);
            levels.prove(trays[k]);
            if (!areLaced(trays[k + 1], trays[k])) {
                return k;
            }
        }
        return NONE;
    }

    public int member(int tray, int j, int what) {
        if (!isTray(tray) || what < 0 || what > 1) {
            return NONE;
        }
        Tray asked = trays[tray];
        levels.prove(asked);
        if (j < 0 || j >= asked.members) {
            return NONE;
        }
        return what == 0 ? asked.degrees[j] : asked.signs[j];
    }

    public int fails(int tray) {
        if (!isTray(tray)) {
            return NOT_SUCH;
        }
        Tray asked = trays[tray];
        levels.prove(asked);
        if (asked.members < 1) {
            return NOT_SUCH;
        }
        return asked.firstFailure();
    }

    // ---- rows

    public int row(int tray, int what) {
        if (!isTray(tray) || what < 0 || what > 4) {
            return NONE;
        }
        long[] numbers = trays[tray].numbers;
        int degree = Numbers.degreeOf(numbers);
        if (degree < 0) {
            return NOT_SUCH;
        }
        switch (what) {
            case 0:
                return Rows.firstAgainstNewton(numbers, degree);
            case 1:
                return Rows.firstNotConcave(numbers, degree);
            case 2:
                return Rows.holes(numbers, degree);
            case 3:
                return Rows.hasHump(numbers, degree) ? 1 : 0;
            default:
                return Rows.modes(numbers, degree);
        }
    }

    public long mean(int tray, boolean lower) {
        if (!isTray(tray)) {
            return NO_NUMBER;
        }
        long[] numbers = trays[tray].numbers;
        long total = 0;
        long weighed = 0;
        for (int k = 0; k < WIDTH; k++) {
            total += numbers[k];
            weighed += k * numbers[k];
        }
        if (total == 0) {
            return NO_NUMBER;
        }
        long shared = Numbers.commonDivisor(weighed, total);
        if (shared == 0) {
            return NO_NUMBER;
        }
        if (total < 0) {
            shared = -shared;
        }
        return (lower ? total : weighed) / shared;
    }

    private static boolean isTray(int tray) {
        return tray >= 0 && tray < TRAYS;
    }

    private static boolean isPower(int k) {
        return k >= 0 && k <= TOP_POWER;
    }

    private static boolean isFactor(int a) {
        return a >= -FACTOR_LIMIT && a <= FACTOR_LIMIT;
    }

    private static boolean isFineness(int s) {
        return s >= 0 && s <= FINEST;
    }

    /**
     * Roots that two polynomials share may be taken out of both without harm to their lacing; what is
     * left laces just if the quotient other / one jumps the same way at every root that is left.
     * Both have been proved.
     */
    private boolean areLaced(Tray one, Tray other) {
        if (!one.whole || !other.whole) {
            return false;
        }
        int degree = Numbers.degreeOf(one.numbers);
        int less = degree - Numbers.degreeOf(other.numbers);
        if (less < 0 || less > 1) {
            return false;
        }
        sequence.run(one.numbers, other.numbers);
        int left = degree - sequence.lastDegree();
        int way = sequence.signs[0] * sequence.signs[1];
        return sequence.jumps() == way * left;
    }

    /** A polynomial, and what has been found out about it since it came. */
    private static final class Tray {
        final long[] numbers = new long[WIDTH];

        boolean proved;
        boolean whole;
        int roots;
        int unlike;
        int most;
        int members;
        final int[] degrees = new int[Sequence.ROWS];
        final int[] signs = new int[Sequence.ROWS];

        boolean placed;
        /** Of each unlike root, in 4096th parts, the least whole number that is not below it. */
        final long[] ceilings = new long[TOP_POWER];
        final boolean[] exact = new boolean[TOP_POWER];
        final int[] repeats = new int[TOP_POWER];

        void take(long[] from) {
            for (int k = 0; k < WIDTH && k < from.length; k++) {
                numbers[k] = from[k];
            }
            forget();
        }

        void change(int k, long value) {
            if (k >= 0 && k < WIDTH) {
                numbers[k] = value;
                forget();
            }
        }

        void forget() {
            proved = false;
            placed = false;
        }

        long floorOf(int place) {
            if (place < 0 || place >= TOP_POWER) {
                return NO_NUMBER;
            }
            return exact[place] ? ceilings[place] : ceilings[place] - 1;
        }

        /** Which of the unlike roots the k-th root is; NONE if there is no such root. */
        int placeOfRoot(int k) {
            if (k < 0) {
                return NONE;
            }
            int passed = 0;
            for (int place = 0; place < unlike && place < TOP_POWER; place++) {
                passed += repeats[place];
                if (k < passed) {
                    return place;
                }
            }
            return NONE;
        }

        int rootsUpTo(int bound) {
            long edge = (long) bound << FINEST;
            int found = 0;
            for (int place = 0; place < unlike && place < TOP_POWER; place++) {
                if (ceilings[place] <= edge) {
                    found += repeats[place];
                }
            }
            return found;
        }

        int firstFailure() {
            int last = Math.min(members, Sequence.ROWS) - 1;
            for (int j = 1; j <= last; j++) {
                if (degrees[j] != degrees[j - 1] - 1 || signs[j] != signs[0]) {
                    return j;
                }
            }
            return last >= 0 && degrees[last] > 0 ? members : NONE;
        }
    }

    /** The bytes that were fed, and what they tell when they are read. */
    private static final class Tape {
        private static final int ROOM = 200;
        private static final int PIECE = 20;

        private static final int START = 0;
        private static final int TERM = 1;
        private static final int BEHIND_NUMBER = 2;
        private static final int BEHIND_X = 3;
        private static final int POWER = 4;
        private static final int BEHIND_POWER = 5;

        private static final int NO_FAULT = 0;
        private static final int CANT_STAND = 1;
        private static final int TOO_GREAT = 2;
        private static final int NO_POLYNOMIAL = 3;
        private static final int PLACE = 8;

        final int[] bytes = new int[ROOM];
        int length;
        int latestFault;
        final long[] told = new long[WIDTH];

        private int state;
        private boolean minus;
        private long factor;
        private int power;

        boolean hasRoom() {
            return length + PIECE <= ROOM;
        }

        void append(int word) {
            for (int shift = 24; shift >= 0 && length < ROOM; shift -= 8) {
                bytes[length] = (word >> shift) & 255;
                length++;
            }
        }

        void parse() {
            startText();
            latestFault = parseTokens();
            if (latestFault == NO_FAULT && !Numbers.fits(told)) {
                latestFault = NO_POLYNOMIAL + PLACE * length;
            }
        }

        private void startText() {
            for (int k = 0; k < WIDTH; k++) {
                told[k] = 0;
            }
            startTerm(false);
            state = START;
        }

        private int parseTokens() {
            int at = 0;
            for (int turn = 0; turn < ROOM && at < length && at < ROOM; turn++) {
                int sign = bytes[at];
                int next = isDigit(sign) ? numberEnd(at) : at + 1;
                int kind = NO_FAULT;
                if (isDigit(sign)) {
                    kind = takeNumber(valueOf(at, next));
                } else if (sign != ' ' && sign != '\n') {
                    kind = takeByte(sign);
                }
                if (kind != NO_FAULT) {
                    return kind + PLACE * at;
                }
                at = next;
            }
            if (!isTermWhole()) {
                return CANT_STAND + PLACE * length;
            }
            addTerm();
            return NO_FAULT;
        }

        private static boolean isDigit(int sign) {
            return sign >= '0' && sign <= '9';
        }

        private int numberEnd(int from) {
            int at = from + 1;
            while (at < length && at < ROOM && isDigit(bytes[at])) {
                at++;
            }
            return at;
        }

        /** A number above the limit stays just above it, however many digits it has. */
        private long valueOf(int from, int to) {
            long value = 0;
            for (int at = from; at < to && at < ROOM; at++) {
                value = Math.min(value * 10 + bytes[at] - '0', LIMIT + 1);
            }
            return value;
        }

        private int takeNumber(long value) {
            if (state == START || state == TERM) {
                factor = value;
                state = BEHIND_NUMBER;
                return value > LIMIT ? TOO_GREAT : NO_FAULT;
            }
            if (state == POWER) {
                power = (int) Math.min(value, TOP_POWER);
                state = BEHIND_POWER;
                return value > TOP_POWER ? TOO_GREAT : NO_FAULT;
            }
            return CANT_STAND;
        }

        private int takeByte(int sign) {
            if (sign == 'x' && state <= BEHIND_NUMBER) {
                power = 1;
                state = BEHIND_X;
                return NO_FAULT;
            }
            if (sign == '^' && state == BEHIND_X) {
                state = POWER;
                return NO_FAULT;
            }
            if (sign == '-' && state == START) {
                startTerm(true);
                return NO_FAULT;
            }
            if ((sign == '+' || sign == '-') && isTermWhole()) {
                addTerm();
                startTerm(sign == '-');
                return NO_FAULT;
            }
            return CANT_STAND;
        }

        private boolean isTermWhole() {
            return state == BEHIND_NUMBER || state == BEHIND_X || state == BEHIND_POWER;
        }

        private void startTerm(boolean negative) {
            minus = negative;
            factor = 1;
            power = 0;
            state = TERM;
        }

        private void addTerm() {
            if (power >= 0 && power < WIDTH) {
                told[power] += minus ? -factor : factor;
            }
        }
    }

    /** Makes new polynomials of those in the trays; what comes out stands in made, and may not fit. */
    private static final class Maker {
        /**
         * No number on the way to p at x + a passes this if the outcome fits: each pass divides by
         * x - a, so its numbers follow from the outcome upwards, at most 8 times greater each time.
         */
        private static final long SHIFT_LIMIT = 2000000000000000L;

        final long[] made = new long[PRODUCT_WIDTH];

        boolean apply(long[] p, int operator, int a) {
            clear();
            switch (operator) {
                case 0:
                    addSlope(p, 0, 1);
                    break;
                case 1:
                    addSlope(p, 1, 1);
                    break;
                case 2:
                    addNumbers(p, 0, 1);
                    addSlope(p, 0, a);
                    break;
                case 3:
                    addNumbers(p, 1, 1);
                    addNumbers(p, 0, a);
                    break;
                case 4:
                    return shift(p, a);
                case 5:
                    turn(p);
                    break;
                case 6:
                    return stretch(p, a);
                case 7:
                    addNumbers(p, 0, 1);
                    addNumbers(p, 1, a);
                    addSlope(p, 1, 1);
                    addSlope(p, 2, -1);
                    break;
                case 8:
                    addNumbers(p, 1, 1);
                    addSlope(p, 1, 1);
                    break;
                case 9:
                    weigh(p);
                    break;
                default:
                    return false;
            }
            return Numbers.fits(made);
        }

        boolean sum(long[] p, long[] q, int a, int b) {
            clear();
            addNumbers(p, 0, a);
            addNumbers(q, 0, b);
            return Numbers.fits(made);
        }

        boolean product(long[] p, long[] q) {
            clear();
            for (int k = 0; k < p.length; k++) {
                addNumbers(q, k, p[k]);
            }
            return Numbers.fits(made);
        }

        private void clear() {
            for (int k = 0; k < PRODUCT_WIDTH; k++) {
                made[k] = 0;
            }
        }

        private void addNumbers(long[] p, int up, long factor) {
            for (int k = 0; k < p.length && k + up < PRODUCT_WIDTH; k++) {
                made[k + up] += factor * p[k];
            }
        }

        private void addSlope(long[] p, int up, long factor) {
            for (int k = 1; k < p.length && k - 1 + up < PRODUCT_WIDTH; k++) {
                made[k - 1 + up] += factor * k * p[k];
            }
        }

        private boolean shift(long[] p, int a) {
            addNumbers(p, 0, 1);
            for (int pass = 0; pass < TOP_POWER; pass++) {
                for (int k = TOP_POWER - 1; k >= pass; k--) {
                    made[k] += a * made[k + 1];
                    if (made[k] > SHIFT_LIMIT || made[k] < -SHIFT_LIMIT) {
                        return false;
                    }
                }
            }
            return Numbers.fits(made);
        }

        private void turn(long[] p) {
            int degree = Numbers.degreeOf(p);
            for (int k = 0; k <= degree; k++) {
                made[degree - k] = p[k];
            }
        }

        private boolean stretch(long[] p, int a) {
            for (int k = 0; k < p.length && k < PRODUCT_WIDTH; k++) {
                long value = p[k];
                for (int j = 0; j < k; j++) {
                    value *= a;
                    if (value > LIMIT || value < -LIMIT) {
                        return false;
                    }
                }
                made[k] = value;
            }
            return true;
        }

        private void weigh(long[] p) {
            long weight = 1;
            for (int k = 0; k < p.length && k < PRODUCT_WIDTH; k++) {
                weight *= Math.max(k, 1);
                made[k] = p[k] * weight;
            }
        }
    }

    /** What can be told of a row without its roots. */
    private static final class Rows {
        static boolean isCounts(long[] c) {
            for (int k = 0; k < c.length; k++) {
                if (c[k] < 0) {
                    return false;
                }
            }
            return true;
        }

        static int firstAgainstNewton(long[] c, int degree) {
            for (int k = 1; k < degree && k + 1 < c.length; k++) {
                long square = c[k] * c[k] * k * (degree - k);
                if (square < c[k - 1] * c[k + 1] * (k + 1) * (degree - k + 1)) {
                    return k;
                }
            }
            return 0;
        }

        static int firstNotConcave(long[] c, int degree) {
            for (int k = 1; k < degree && k + 1 < c.length; k++) {
                if (c[k] * c[k] < c[k - 1] * c[k + 1]) {
                    return k;
                }
            }
            return 0;
        }

        static int holes(long[] c, int degree) {
            int bits = 0;
            boolean begun = false;
            for (int k = 0; k < degree && k < c.length; k++) {
                if (c[k] != 0) {
                    begun = true;
                } else if (begun) {
                    bits |= 1 << k;
                }
            }
            return bits;
        }

        static boolean hasHump(long[] c, int degree) {
            boolean falling = false;
            for (int k = 1; k <= degree && k < c.length; k++) {
                if (c[k] < c[k - 1]) {
                    falling = true;
                } else if (falling && c[k] > c[k - 1]) {
                    return false;
                }
            }
            return true;
        }

        static int modes(long[] c, int degree) {
            int bits = 0;
            long greatest = -LIMIT;
            for (int k = 0; k <= degree && k < c.length; k++) {
                if (c[k] > greatest) {
                    greatest = c[k];
                    bits = 0;
                }
                if (c[k] == greatest) {
                    bits |= 1 << k;
                }
            }
            return bits;
        }
    }

    /** Polynomials whose numbers are small enough for a long. */
    private static final class Numbers {
        /** No two longs need as many turns to their common divisor. */
        private static final int MOST_TURNS = 100;

        static int degreeOf(long[] c) {
            int k = c.length - 1;
            while (k >= 0 && c[k] == 0) {
                k--;
            }
            return k;
        }

        static boolean fits(long[] c) {
            for (int k = 0; k < c.length; k++) {
                long bound = k <= TOP_POWER ? LIMIT : 0;
                if (c[k] > bound || c[k] < -bound) {
                    return false;
                }
            }
            return true;
        }

        static void setSlope(long[] out, long[] c) {
            for (int k = 0; k < out.length; k++) {
                out[k] = k + 1 < c.length ? c[k + 1] * (k + 1) : 0;
            }
        }

        static long commonDivisor(long a, long b) {
            long high = Math.abs(a);
            long low = Math.abs(b);
            for (int turn = 0; low != 0 && turn < MOST_TURNS; turn++) {
                long left = high % low;
                high = low;
                low = left;
            }
            return high;
        }

        /** Takes out what all numbers share. */
        static void makePrimitive(long[] c) {
            long shared = 0;
            for (int k = 0; k < c.length; k++) {
                shared = commonDivisor(shared, c[k]);
            }
            if (shared <= 1) {
                return;
            }
            for (int k = 0; k < c.length; k++) {
                c[k] /= shared;
            }
        }

        /** The quotient of c by a polynomial that goes into it in whole numbers; rest is spent. */
        static void setQuotient(long[] out, long[] rest, long[] by) {
            int degree = degreeOf(by);
            for (int k = 0; k < out.length; k++) {
                out[k] = 0;
            }
            if (degree < 0 || by[degree] == 0) {
                return;
            }
            for (int k = degreeOf(rest) - degree; k >= 0; k--) {
                if (k < out.length && k + degree < rest.length) {
                    out[k] = rest[k + degree] / by[degree];
                    for (int j = 0; j <= degree; j++) {
                        rest[k + j] -= out[k] * by[j];
                    }
                }
            }
        }
    }

    /**
     * A whole number in digits to the base 2^30. All digits but the highest are from 0 up; the highest
     * one carries the sign. What does not find room comes out as 0; the rooms are chosen so that
     * no polynomial within the document's limits gets there (see NOTES.md).
     */
    private static final class Big {
        private static final int BITS = 30;
        private static final long BASE = 1L << BITS;
        private static final long MASK = BASE - 1;
        private static final int LEAST_ROOM = 4;

        final long[] digits;
        int length;

        Big(int room) {
            digits = new long[Math.max(room, LEAST_ROOM)];
            length = 1;
        }

        void set(long value) {
            digits[0] = value & MASK;
            digits[1] = (value >> BITS) & MASK;
            digits[2] = value >> (2 * BITS);
            trim(3);
        }

        private void clear() {
            digits[0] = 0;
            length = 1;
        }

        void copy(Big from) {
            if (from.length > digits.length) {
                clear();
                return;
            }
            System.arraycopy(from.digits, 0, digits, 0, from.length);
            length = from.length;
        }

        /** So many digits are in use, at most as many as there is room for: leaves out what tells nothing. */
        private void trim(int used) {
            int n = used;
            while (n > 1 && (digits[n - 1] == 0 || digits[n - 1] == -1)) {
                if (digits[n - 1] == -1) {
                    digits[n - 2] -= BASE;
                }
                n--;
            }
            length = n;
        }

        int signum() {
            return Long.signum(digits[length - 1]);
        }

        /** This becomes a times b; it is neither of them. */
        void setProduct(Big a, Big b) {
            int n = a.length + b.length;
            if (n > digits.length) {
                clear();
                return;
            }
            for (int k = 0; k < n; k++) {
                digits[k] = 0;
            }
            for (int i = 0; i < a.length; i++) {
                long carry = 0;
                for (int j = 0; j < b.length; j++) {
                    long sum = digits[i + j] + a.digits[i] * b.digits[j] + carry;
                    digits[i + j] = sum & MASK;
                    carry = sum >> BITS;
                }
                digits[i + b.length] = carry;
            }
            trim(n);
        }

        /** Adds b times a factor of at most 2^30, moved up by whole digits; b may be this if up is 0. */
        void addTimes(Big b, long factor, int up) {
            int n = Math.max(length, b.length + up) + 2;
            if (up < 0 || n > digits.length) {
                clear();
                return;
            }
            int last = b.length + up;
            for (int k = length; k < n; k++) {
                digits[k] = 0;
            }
            long carry = 0;
            for (int k = 0; k < n; k++) {
                long sum = digits[k] + carry;
                if (k >= up && k < last) {
                    sum += factor * b.digits[k - up];
                }
                digits[k] = k < n - 1 ? sum & MASK : sum;
                carry = sum >> BITS;
            }
            trim(n);
        }

        void negate() {
            int n = length + 1;
            if (n > digits.length) {
                clear();
                return;
            }
            long carry = 0;
            for (int k = 0; k < length; k++) {
                long sum = carry - digits[k];
                digits[k] = sum & MASK;
                carry = sum >> BITS;
            }
            digits[n - 1] = carry;
            trim(n);
        }

        int trailingZeros() {
            if (digits[length - 1] == 0) {
                return 0;
            }
            int k = 0;
            while (k < length - 1 && digits[k] == 0) {
                k++;
            }
            return k * BITS + Long.numberOfTrailingZeros(digits[k]);
        }

        /** The digit at a place, also above the highest one, where only its sign goes on. */
        private long digitAt(int k) {
            return k < length ? digits[k] : digits[length - 1] >> BITS;
        }

        void shiftDown(int bits) {
            if (bits <= 0) {
                return;
            }
            int whole = bits / BITS;
            int part = bits % BITS;
            int n = Math.max(length - whole, 1);
            for (int k = 0; k < n - 1; k++) {
                long both = (digitAt(k + whole) >> part) | (digitAt(k + whole + 1) << (BITS - part));
                digits[k] = both & MASK;
            }
            digits[n - 1] = digitAt(n - 1 + whole) >> part;
            trim(n);
        }

        /**
         * This becomes the quotient of a number by an odd one that goes into it. Since nothing is left,
         * the digits can be told from the lowest up, without any guess; rest is spent.
         */
        void setQuotient(Big rest, Big odd) {
            int n = Math.max(rest.length - odd.length + 2, 1);
            if (n > digits.length || n > rest.digits.length) {
                clear();
                return;
            }
            for (int k = rest.length; k < n; k++) {
                rest.digits[k] = 0;
            }
            long inverse = inverseOf(odd.digits[0]);
            for (int k = 0; k < n; k++) {
                long digit = (rest.digits[k] * inverse) & MASK;
                digits[k] = digit;
                long carry = 0;
                for (int j = 0; k + j < n; j++) {
                    long sum = rest.digits[k + j] + carry;
                    if (j < odd.length) {
                        sum -= digit * odd.digits[j];
                    }
                    rest.digits[k + j] = sum & MASK;
                    carry = sum >> BITS;
                }
            }
            if (digits[n - 1] >= BASE / 2) {
                digits[n - 1] -= BASE;
            }
            trim(n);
        }

        /** An odd number is its own inverse by 8; each turn doubles the bits that are right. */
        private static long inverseOf(long odd) {
            long low = odd & MASK;
            long inverse = low;
            for (int bits = 3; bits < BITS; bits *= 2) {
                inverse = (inverse * ((2 - low * inverse) & MASK)) & MASK;
            }
            return inverse;
        }

        long toLong() {
            long value = 0;
            for (int k = length - 1; k >= 0; k--) {
                value = (value << BITS) + digits[k];
            }
            return value;
        }
    }

    /**
     * The sequence p, q, then always what the last but one leaves by the last, with the other sign;
     * each member is a positive multiple in whole numbers of the one with fractions (a subresultant, so
     * that its numbers stay short). The signs and the degrees are those of the sequence itself.
     */
    private static final class Sequence {
        static final int ROWS = 10;
        private static final int ROOM = 24;
        private static final int WIDE_ROOM = 96;

        final Big[] numbers = new Big[ROWS * WIDTH];
        final int[] degrees = new int[ROWS];
        /** The signs of the numbers at the highest powers. */
        final int[] signs = new int[ROWS];
        int members;

        private final Big[] rest = new Big[WIDTH];
        private final Big left = new Big(WIDE_ROOM);
        private final Big right = new Big(WIDE_ROOM);
        private final Big top = new Big(WIDE_ROOM);
        private final Big divisor = new Big(WIDE_ROOM);
        private final Big ownLead = new Big(ROOM);
        private final Big lead = new Big(ROOM);
        private final Big height = new Big(ROOM);

        Sequence() {
            for (int k = 0; k < numbers.length; k++) {
                numbers[k] = new Big(ROOM);
            }
            for (int k = 0; k < WIDTH; k++) {
                rest[k] = new Big(WIDE_ROOM);
            }
        }

        void run(long[] p, long[] q) {
            load(0, p);
            load(1, q);
            members = degrees[1] < 0 ? 1 : 2;
            lead.set(1);
            height.set(1);
            for (int k = 2; k < ROWS && members == k && degrees[k - 1] > 0; k++) {
                formRest(k);
                int degree = restDegree(k);
                if (degree >= 0) {
                    shortenRest(k, degree);
                    raiseHeight(degrees[k - 2] - degrees[k - 1]);
                    members = k + 1;
                }
            }
        }

        private void load(int row, long[] c) {
            int degree = Numbers.degreeOf(c);
            degrees[row] = degree;
            signs[row] = degree < 0 ? 0 : Long.signum(c[degree]);
            for (int k = 0; k < WIDTH && k < c.length; k++) {
                numbers[row * WIDTH + k].set(c[k]);
            }
        }

        /** What member k - 2, times a positive number, leaves by member k - 1. */
        private void formRest(int k) {
            int over = (k - 2) * WIDTH;
            int under = (k - 1) * WIDTH;
            int high = degrees[k - 2];
            int low = degrees[k - 1];
            for (int j = 0; j <= high; j++) {
                rest[j].copy(numbers[over + j]);
            }
            int way = signs[k - 1];
            ownLead.copy(numbers[under + low]);
            if (way < 0) {
                ownLead.negate();
            }
            for (int j = high; j >= low; j--) {
                top.copy(rest[j]);
                for (int i = 0; i < j; i++) {
                    left.setProduct(rest[i], ownLead);
                    if (i >= j - low) {
                        right.setProduct(top, numbers[under + i - (j - low)]);
                        left.addTimes(right, -way, 0);
                    }
                    rest[i].copy(left);
                }
            }
        }

        private int restDegree(int k) {
            int degree = degrees[k - 1] - 1;
            while (degree >= 0 && rest[degree].signum() == 0) {
                degree--;
            }
            return degree;
        }

        /** Takes out of the rest what is known to be in it, and turns its sign: this is member k. */
        private void shortenRest(int k, int degree) {
            int drop = degrees[k - 2] - degrees[k - 1];
            divisor.copy(lead);
            for (int j = 0; j < drop; j++) {
                left.setProduct(divisor, height);
                divisor.copy(left);
            }
            divisor.negate();
            int zeros = divisor.trailingZeros();
            divisor.shiftDown(zeros);
            for (int j = 0; j < WIDTH; j++) {
                Big number = numbers[k * WIDTH + j];
                if (j > degree) {
                    number.set(0);
                } else {
                    rest[j].shiftDown(zeros);
                    number.setQuotient(rest[j], divisor);
                }
            }
            degrees[k] = degree;
            signs[k] = numbers[k * WIDTH + degree].signum();
        }

        /** What will be in the next rest: lead, and height, which becomes lead^drop / height^(drop - 1). */
        private void raiseHeight(int drop) {
            lead.copy(ownLead);
            if (drop < 1) {
                return;
            }
            left.copy(lead);
            divisor.set(1);
            for (int j = 1; j < drop; j++) {
                right.setProduct(left, lead);
                left.copy(right);
                right.setProduct(divisor, height);
                divisor.copy(right);
            }
            int zeros = divisor.trailingZeros();
            divisor.shiftDown(zeros);
            left.shiftDown(zeros);
            height.setQuotient(left, divisor);
        }

        int lastDegree() {
            return members > 0 && members <= ROWS ? degrees[members - 1] : NONE;
        }

        /** How many times two signs that follow one another differ, far below all roots. */
        int changesBelow() {
            int changes = 0;
            for (int k = 1; k < members && k < ROWS; k++) {
                boolean odd = ((degrees[k] ^ degrees[k - 1]) & 1) != 0;
                boolean unlike = signs[k] != signs[k - 1];
                if (odd != unlike) {
                    changes++;
                }
            }
            return changes;
        }

        /** The jumps of q / p from below all to above all, less those from above all to below all. */
        int jumps() {
            int above = 0;
            for (int k = 1; k < members && k < ROWS; k++) {
                if (signs[k] != signs[k - 1]) {
                    above++;
                }
            }
            return changesBelow() - above;
        }

        /** The last member, which goes into p, in least whole numbers. */
        void copyDivisor(long[] out) {
            for (int k = 0; k < out.length; k++) {
                out[k] = 0;
            }
            int degree = lastDegree();
            if (degree <= 0) {
                out[0] = 1;
                return;
            }
            int last = (members - 1) * WIDTH;
            divisor.copy(numbers[last + degree]);
            int zeros = divisor.trailingZeros();
            divisor.shiftDown(zeros);
            for (int k = 0; k <= degree && k < out.length; k++) {
                left.setProduct(numbers[last + k], numbers[degrees[0]]);
                left.shiftDown(zeros);
                right.setQuotient(left, divisor);
                out[k] = right.toLong();
            }
            Numbers.makePrimitive(out);
        }
    }

    /** A place x / 2^s, at which the signs of polynomials are told. */
    private static final class Point {
        private static final int ROOM = 20;
        private static final int WIDE_ROOM = 96;

        final Big x = new Big(ROOM);
        private int s;
        private final Big[] loaded = new Big[WIDTH];
        private Big sum = new Big(WIDE_ROOM);
        private Big next = new Big(WIDE_ROOM);

        Point() {
            for (int k = 0; k < WIDTH; k++) {
                loaded[k] = new Big(Big.LEAST_ROOM);
            }
        }

        void move(long upper, int fineness) {
            x.set(upper);
            shorten(fineness);
        }

        void moveTo(Big upper, int fineness) {
            x.copy(upper);
            shorten(fineness);
        }

        private void shorten(int fineness) {
            int zeros = x.signum() == 0 ? fineness : Math.min(x.trailingZeros(), fineness);
            x.shiftDown(zeros);
            s = fineness - zeros;
        }

        int signOf(long[] c) {
            int degree = Math.min(Numbers.degreeOf(c), TOP_POWER);
            for (int k = 0; k <= degree; k++) {
                loaded[k].set(c[k]);
            }
            return signAmong(loaded, 0, degree);
        }

        /** The sign of the polynomial whose numbers stand in a row from a place on. */
        int signAmong(Big[] row, int from, int degree) {
            if (degree < 0 || from < 0 || from + degree >= row.length) {
                return 0;
            }
            sum.copy(row[from + degree]);
            int bits = 0;
            for (int k = degree - 1; k >= 0; k--) {
                bits += s;
                next.setProduct(sum, x);
                next.addTimes(row[from + k], 1L << (bits % Big.BITS), bits / Big.BITS);
                Big spare = sum;
                sum = next;
                next = spare;
            }
            return sum.signum();
        }
    }

    /**
     * p, what p shares with its derivative, what that shares with its own, and so on: level i
     * has the roots that p has more than i times.
     */
    private static final class Levels {
        final long[][] common = new long[WIDTH][WIDTH];
        final int[] real = new int[WIDTH];
        int depth;

        private final Sequence sequence;
        private final long[] slope = new long[WIDTH];

        Levels(Sequence shared) {
            sequence = shared;
        }

        void prove(Tray tray) {
            if (tray.proved) {
                return;
            }
            tray.members = 0;
            tray.roots = 0;
            tray.unlike = 0;
            tray.most = 0;
            build(tray.numbers, tray);
            for (int i = 0; i < depth; i++) {
                tray.roots += real[i];
                tray.most += real[i] > 0 ? 1 : 0;
            }
            tray.unlike = depth > 0 ? real[0] : 0;
            int degree = Numbers.degreeOf(tray.numbers);
            tray.whole = degree >= 0 && tray.roots == degree;
            tray.proved = true;
        }

        void build(long[] p, Tray tray) {
            System.arraycopy(p, 0, common[0], 0, WIDTH);
            depth = 0;
            while (depth < TOP_POWER && Numbers.degreeOf(common[depth]) > 0) {
                Numbers.setSlope(slope, common[depth]);
                sequence.run(common[depth], slope);
                if (depth == 0) {
                    keepProof(tray);
                }
                real[depth] = sequence.jumps();
                depth++;
                sequence.copyDivisor(common[depth]);
            }
        }

        private void keepProof(Tray tray) {
            tray.members = sequence.members;
            for (int j = 0; j < sequence.members && j < Sequence.ROWS; j++) {
                tray.degrees[j] = sequence.degrees[j];
                tray.signs[j] = sequence.signs[j];
            }
        }
    }

    /** Finds between which 4096th parts each of the unlike roots lies, and how often it is one. */
    private static final class Placer {
        /** All roots are below 2^27, for none is above 100000001. */
        private static final int WIDEST = 27;
        /** Two unlike roots of a polynomial that has one of them twice are further apart than 2^-200. */
        private static final int DEEPEST = 256;
        private static final int ROOM = 20;

        private final Levels levels;
        private final Sequence sequence;
        private final Point point;
        private final long[][] simple = new long[WIDTH][WIDTH];
        private final long[] work = new long[WIDTH];

        private int unlike;
        private int changesBelow;
        /** Root j lies above low[j] and not above high[j]; so many roots are not above each of the two. */
        private final long[] low = new long[TOP_POWER];
        private final long[] high = new long[TOP_POWER];
        private final int[] upToLow = new int[TOP_POWER];
        private final int[] upToHigh = new int[TOP_POWER];

        private final Big edge = new Big(ROOM);
        private final Big middle = new Big(ROOM);
        private final Big one = new Big(Big.LEAST_ROOM);
        private int fineness;

        Placer(Levels given, Sequence shared, Point movable) {
            levels = given;
            sequence = shared;
            point = movable;
            one.set(1);
        }

        /** The tray has been proved. */
        void place(Tray tray) {
            if (tray.placed) {
                return;
            }
            tray.placed = true;
            unlike = Math.min(tray.unlike, TOP_POWER);
            if (unlike < 1) {
                return;
            }
            levels.build(tray.numbers, tray);
            makeSimple();
            startBrackets();
            for (int j = 0; j < unlike; j++) {
                part(j);
                narrow(j);
                point.move(high[j], FINEST);
                tray.ceilings[j] = high[j];
                tray.exact[j] = upToHigh[j] == j + 1 && signOfAll() == 0;
                tray.repeats[j] = 1;
                if (tray.most > 1) {
                    refine(j);
                    tray.repeats[j] = repeatsInCell();
                }
            }
        }

        /** simple[i] has every root of level i once; the sequence is then that of simple[0]. */
        private void makeSimple() {
            for (int i = 0; i < levels.depth && i < TOP_POWER; i++) {
                System.arraycopy(levels.common[i], 0, work, 0, WIDTH);
                Numbers.setQuotient(simple[i], work, levels.common[i + 1]);
            }
            Numbers.setSlope(work, simple[0]);
            sequence.run(simple[0], work);
            changesBelow = sequence.changesBelow();
        }

        /** How many unlike roots are not above the point. */
        private int rootsUpToPoint() {
            int changes = 0;
            int before = 0;
            for (int k = 0; k < sequence.members && k < Sequence.ROWS; k++) {
                int sign = point.signAmong(sequence.numbers, k * WIDTH, sequence.degrees[k]);
                if (sign != 0) {
                    if (sign == -before) {
                        changes++;
                    }
                    before = sign;
                }
            }
            return changesBelow - changes;
        }

        private int signOfAll() {
            return point.signAmong(sequence.numbers, 0, sequence.degrees[0]);
        }

        private void startBrackets() {
            long bound = 1L << (WIDEST + FINEST);
            for (int e = 0; e < WIDEST; e++) {
                long nearer = 1L << (e + FINEST);
                point.move(nearer, FINEST);
                if (nearer < bound && rootsUpToPoint() == unlike) {
                    point.move(-nearer, FINEST);
                    if (rootsUpToPoint() == 0) {
                        bound = nearer;
                    }
                }
            }
            for (int j = 0; j < unlike; j++) {
                low[j] = -bound;
                high[j] = bound;
                upToLow[j] = 0;
                upToHigh[j] = unlike;
            }
        }

        /** Halves until root j is alone, or as near as the grid lets one see; the others learn from it. */
        private void part(int j) {
            for (int turn = 0; turn <= WIDEST + FINEST + 1; turn++) {
                if (upToHigh[j] - upToLow[j] <= 1 || high[j] - low[j] <= 1) {
                    return;
                }
                long mid = (low[j] + high[j]) >> 1;
                point.move(mid, FINEST);
                int upTo = rootsUpToPoint();
                for (int i = 0; i < unlike; i++) {
                    if (i < upTo && mid < high[i]) {
                        high[i] = mid;
                        upToHigh[i] = upTo;
                    }
                    if (i >= upTo && mid > low[i]) {
                        low[i] = mid;
                        upToLow[i] = upTo;
                    }
                }
            }
        }

        /** Once root j is alone, the sign at the middle tells on which side it lies. */
        private void narrow(int j) {
            int above = unlike - upToLow[j];
            int signBefore = (above & 1) == 0 ? sequence.signs[0] : -sequence.signs[0];
            for (int turn = 0; turn <= WIDEST + FINEST + 1; turn++) {
                if (high[j] - low[j] <= 1) {
                    return;
                }
                long mid = (low[j] + high[j]) >> 1;
                point.move(mid, FINEST);
                if (signOfAll() == signBefore) {
                    low[j] = mid;
                } else {
                    high[j] = mid;
                }
            }
        }

        private int repeatsInCell() {
            int found = 1;
            for (int i = 1; i < levels.depth && i < TOP_POWER; i++) {
                if (levels.real[i] > 0 && isInCell(simple[i])) {
                    found++;
                }
            }
            return found;
        }

        /** Goes on to finer grids until root j is alone between edge - 1 and edge. */
        private void refine(int j) {
            edge.set(high[j]);
            fineness = FINEST;
            int upToBottom = upToLow[j];
            int upToEdge = upToHigh[j];
            while (upToEdge - upToBottom > 1 && fineness < DEEPEST) {
                fineness++;
                edge.addTimes(edge, 1, 0);
                middle.copy(edge);
                middle.addTimes(one, -1, 0);
                point.moveTo(middle, fineness);
                int upTo = rootsUpToPoint();
                if (j < upTo) {
                    edge.copy(middle);
                    upToEdge = upTo;
                } else {
                    upToBottom = upTo;
                }
            }
        }

        /** Whether a polynomial with at most one root in the cell, a single one, has it there. */
        private boolean isInCell(long[] c) {
            middle.copy(edge);
            middle.addTimes(one, -1, 0);
            point.moveTo(middle, fineness);
            int bottom = point.signOf(c);
            if (bottom == 0) {
                Numbers.setSlope(work, c);
                bottom = point.signOf(work);
            }
            point.moveTo(edge, fineness);
            return point.signOf(c) != bottom;
        }
    }
}
