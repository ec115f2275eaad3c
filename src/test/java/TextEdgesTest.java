/**
 * Terms 4 and the promises 2 to 5 at their boundaries: each sentence of the document that names one is quoted above
 * its test, which looks at it, just inside and just beyond, and at what stays.
 */
public final class TextEdgesTest {
    private static final Check check = new Check();
    private static final String BLANKS = " ".repeat(200);
    private static final String ZEROS = "0".repeat(200);

    public static void main(String[] args) {
        feedHighestFirst();
        feedAllBytes();
        feedMoreThan200();
        feedBehindEnd();
        endNotSoMany();
        endStays();
        endFirstBytesAlone();
        readTrue();
        readFault();
        readNoSuchTray();
        faultAheadOfAny();
        faultOfTheLatest();
        faultStaysThroughOtherCalls();
        textOf200();
        everyByteInEveryPlace();
        everyByteBehindABlank();
        numbersAtTheLimit();
        numbersBehindAPower();
        placesAll();
        firstAlongTheText();
        noPolynomial();
        comesTogether();
        check.finish("TextEdgesTest");
    }

    private static RootRows fed(String text) {
        RootRows rows = new RootRows();
        check.due("room for " + text, Check.feed(rows, text), true);
        return rows;
    }

    private static void dueFault(String text, int kind, int place) {
        RootRows rows = fed(text);
        check.due("read [" + text + "]", rows.read(0), false);
        check.due("fault of [" + text + "]", rows.fault(), kind + 8 * place);
        check.due("degree behind [" + text + "]", rows.count(0, 0), -1);
    }

    private static void dueRead(String text, int power, long number) {
        RootRows rows = fed(text);
        check.due("read [" + text + "]", rows.read(0), true);
        check.due("fault of [" + text + "]", rows.fault(), 0);
        for (int k = 0; k <= 8; k++) {
            check.due("c" + k + " of [" + text + "]", rows.number(0, k), k == power ? number : 0);
        }
    }

    private static int feedBlanks(RootRows rows) {
        return rows.feed(0x20202020, 0x20202020, 0x20202020, 0x20202020, 0x20202020);
    }

    // ---- Promise 2

    /** "Twenty bytes come behind the TAPE, of each number the highest first: how many it has." */
    private static void feedHighestFirst() {
        for (int at = 0; at < 20; at++) {
            int[] w = {0x20202020, 0x20202020, 0x20202020, 0x20202020, 0x20202020};
            int shift = 24 - 8 * (at % 4);
            w[at / 4] = w[at / 4] & ~(255 << shift) | '7' << shift;
            RootRows with = new RootRows();
            check.due("feed answers", with.feed(w[0], w[1], w[2], w[3], w[4]), 20);
            check.due("end behind byte " + at, with.end(at + 1), true);
            check.due("byte " + at + " is there", with.read(0), true);
            check.due("byte " + at + " is 7", with.number(0, 0), 7);
            RootRows without = new RootRows();
            without.feed(w[0], w[1], w[2], w[3], w[4]);
            check.due("end ahead of byte " + at, without.end(at), true);
            check.due("byte " + at + " is not there", without.read(0), false);
            check.due("nothing ahead of byte " + at, without.fault(), 1 + 8 * at);
        }
    }

    /** A byte is one of 256: none is told as another one, also where it makes the number one below 0. */
    private static void feedAllBytes() {
        for (int b = 0; b < 256; b++) {
            boolean stands = b >= '0' && b <= '9' || b == 'x';
            boolean blank = b == 32 || b == 10;
            for (int shift = 0; shift <= 24; shift += 8) {
                RootRows rows = new RootRows();
                int word = 0x20202020 & ~(255 << shift) | b << shift;
                rows.feed(word, 0x20202020, word, 0x20202020, 0x20202020);
                rows.end(8);
                check.due("byte " + b + " up " + shift, rows.read(0), stands);
                int place = 3 - shift / 8;
                int due = stands ? 0 : 1 + 8 * (blank || b == '-' ? 8 : place);
                check.due("fault of byte " + b + " up " + shift, rows.fault(), due);
            }
        }
    }

    /** "NONE, and none come: more than 200." */
    private static void feedMoreThan200() {
        for (int n = 0; n <= 200; n++) {
            RootRows rows = new RootRows();
            for (int k = 1; k <= 10; k++) {
                check.due("feed " + k, feedBlanks(rows), 20 * k);
            }
            check.due("feed at 200", feedBlanks(rows), -1);
            check.due("end(" + n + ")", rows.end(n), true);
            check.due("feed at " + n, rows.feed(0x31202020, 0, 0, 0, 0), n <= 180 ? n + 20 : -1);
            int has = n <= 180 ? n + 20 : n;
            check.due("one more than feed left at " + n, rows.end(has + 1), false);
            check.due("what feed left at " + n, rows.end(has), true);
            if (n <= 180) {
                rows.end(n + 4);
            }
            check.due("the tape behind feed at " + n, rows.read(0), n <= 180);
            check.due("its fault behind feed at " + n, rows.fault(), n <= 180 ? 0 : 1 + 8 * n);
        }
        for (int n = 181; n <= 200; n++) {
            int length = n;
            Twin.stays(check, "feed at " + n,
                rows -> {
                    Twin.fill(rows);
                    rows.end(0);
                    Check.feed(rows, "7x^3-5" + BLANKS.substring(0, length - 6));
                },
                rows -> check.due("feed at " + length, rows.feed(0x78787878, 0, 0, 0, 0x78787878), -1));
        }
    }

    /** What stood behind the first n bytes is gone: what comes next stands right behind these. */
    private static void feedBehindEnd() {
        RootRows rows = new RootRows();
        rows.feed(0x31323334, 0x35363738, 0x39303132, 0x33343536, 0x37383930);
        rows.end(2);
        check.due("feed behind end(2)", rows.feed(0x785e3320, 0x20202020, 0x20202020, 0x20202020, 0x20202020), 22);
        check.due("read 12x^3", rows.read(0), true);
        check.due("12x^3", rows.number(0, 3), 12);
        rows.feed(0x39393939, 0x20202020, 0x20202020, 0x20202020, 0x20202020);
        rows.end(1);
        check.due("read 9 behind a read", rows.read(0), true);
        check.due("9", rows.number(0, 0), 9);
        check.due("nothing at x^3", rows.number(0, 3), 0);
    }

    // ---- Promise 3

    /** "false: it has not so many, n is below 0." */
    private static void endNotSoMany() {
        int[] lengths = {0, 1, 19, 20, 21, 100, 179, 180, 181, 199, 200};
        for (int length : lengths) {
            int[] few = {Integer.MIN_VALUE, -200, -2, -1};
            for (int n : few) {
                check.due("end(" + n + ") of " + length, fed(BLANKS.substring(0, length)).end(n), false);
            }
            int[] many = {length + 1, length + 2, 201, 202, 256 + length, Integer.MAX_VALUE};
            for (int n : many) {
                check.due("end(" + n + ") of " + length, fed(BLANKS.substring(0, length)).end(n), n <= length);
            }
            for (int n = Math.max(0, length - 2); n <= length; n++) {
                RootRows rows = fed(BLANKS.substring(0, length));
                check.due("end(" + n + ") of " + length, rows.end(n), true);
                check.due("end(" + (n + 1) + ") behind it", rows.end(n + 1), false);
                check.due("end(" + n + ") again", rows.end(n), true);
            }
            check.due("end(0) of " + length, fed(BLANKS.substring(0, length)).end(0), true);
        }
    }

    /** Where it answers false, the tape is what it was. */
    private static void endStays() {
        int[] wrong = {Integer.MIN_VALUE, -1, 10, 20, 201, Integer.MAX_VALUE};
        for (int n : wrong) {
            Twin.stays(check, "end(" + n + ")", Twin::fill, rows -> check.due("end(" + n + ")", rows.end(n), false));
        }
        Twin.stays(check, "end of all", Twin::fill, rows -> check.due("end(9)", rows.end(9), true));
    }

    /** "The TAPE has its first n bytes alone: true". */
    private static void endFirstBytesAlone() {
        String text = "12345678";
        long[] due = {1, 12, 123, 1234, 12345, 123456, 1234567, 12345678};
        for (int n = 1; n <= text.length(); n++) {
            RootRows rows = fed(text);
            check.due("end(" + n + ")", rows.end(n), true);
            check.due("read behind it", rows.read(7), true);
            check.due("the first " + n, rows.number(7, 0), due[n - 1]);
        }
        RootRows none = fed(text);
        none.end(0);
        check.due("read of no bytes", none.read(7), false);
        check.due("its fault", none.fault(), 1);
        check.due("feed behind no bytes", feedBlanks(none), 20);
    }

    // ---- Promise 4

    /** "The TAPE (empty then) is in a TRAY: true." */
    private static void readTrue() {
        for (int tray = 0; tray <= 7; tray++) {
            int which = tray;
            RootRows rows = new RootRows();
            Twin.fill(rows);
            check.due("read(" + tray + ")", rows.read(tray), true);
            check.due("no fault", rows.fault(), 0);
            for (int k = 0; k <= 8; k++) {
                check.due("c" + k + " of tray " + tray, rows.number(tray, k), k == 3 ? 7 : k == 0 ? -5 : 0);
            }
            check.due("end(1): empty then", rows.end(1), false);
            check.due("feed: empty then", feedBlanks(rows), 20);
            // nothing of what was in the tray is left
            Twin.stays(check, "read(" + tray + ")",
                other -> {
                    Twin.fill(other);
                    other.end(0);
                    Check.set(other, which, "7x^3-5");
                },
                other -> {
                    other.put(which, 4, 11);
                    Check.set(other, which, "7x^3-5");
                });
        }
    }

    /** "false: a FAULT (the TRAY stays)": the tape is empty then, too, and the FAULT another one. */
    private static void readFault() {
        for (int tray = 0; tray <= 7; tray++) {
            int which = tray;
            Twin.stays(check, "read(" + tray + ") with a fault",
                rows -> {
                    Twin.fill(rows);
                    rows.end(0);
                },
                rows -> {
                    Check.feed(rows, "8 + 7x^3 + + 3");
                    check.due("read with a fault", rows.read(which), false);
                    check.due("its fault", rows.fault(), 1 + 8 * 11);
                    Check.feed(rows, "x + + 3");
                    check.due("read with the first fault", rows.read(which), false);
                });
            RootRows rows = new RootRows();
            Twin.fill(rows);
            rows.end(2);
            check.due("read [7x]", rows.read(which), true);
            Check.feed(rows, "x^9");
            check.due("read [x^9]", rows.read(which), false);
            check.due("the tape is empty: end(1)", rows.end(1), false);
            check.due("the tape is empty: feed", feedBlanks(rows), 20);
        }
    }

    /** "no such TRAY (the TAPE, FAULT stay, too)." */
    private static void readNoSuchTray() {
        int[] wrong = {Integer.MIN_VALUE, -8, -1, 8, 9, 16, 256, Integer.MAX_VALUE};
        for (int tray : wrong) {
            Twin.stays(check, "read(" + tray + ")", Twin::fill,
                rows -> check.due("read(" + tray + ")", rows.read(tray), false));
            Twin.stays(check, "read(" + tray + ") of a text with a fault",
                rows -> {
                    Twin.fill(rows);
                    rows.end(0);
                    Check.feed(rows, "100000001");
                },
                rows -> check.due("read(" + tray + ")", rows.read(tray), false));
            Twin.stays(check, "read(" + tray + ") of the empty tape", rows -> Check.set(rows, 0, "x"),
                rows -> check.due("read(" + tray + ")", rows.read(tray), false));
        }
    }

    // ---- Promise 5

    /** "FAULT of the latest read() of the TAPE; 0 without, ahead of any." */
    private static void faultAheadOfAny() {
        RootRows rows = new RootRows();
        check.due("of a new object", rows.fault(), 0);
        Check.feed(rows, "x^9");
        check.due("a wrong text alone", rows.fault(), 0);
        rows.read(8);
        rows.read(-1);
        check.due("behind reads in no tray", rows.fault(), 0);
        rows.read(0);
        check.due("behind a read", rows.fault(), 2 + 8 * 2);
        check.due("asked twice", rows.fault(), 2 + 8 * 2);
    }

    private static void faultOfTheLatest() {
        RootRows rows = new RootRows();
        String[] texts = {"x", "x^9", "1 1", "7", "100000000+1", "", "x+1", "y", "-x"};
        int[] due = {0, 2 + 8 * 2, 1 + 8 * 2, 0, 3 + 8 * 11, 1, 0, 1, 0};
        for (int k = 0; k < texts.length; k++) {
            Check.feed(rows, texts[k]);
            check.due("read [" + texts[k] + "]", rows.read(k % 8), due[k] == 0);
            check.due("fault of [" + texts[k] + "]", rows.fault(), due[k]);
        }
    }

    private static void faultStaysThroughOtherCalls() {
        RootRows rows = new RootRows();
        Check.feed(rows, "3 + y");
        rows.read(2);
        int due = 1 + 8 * 4;
        feedBlanks(rows);
        check.due("behind feed", rows.fault(), due);
        rows.end(3);
        check.due("behind end", rows.fault(), due);
        rows.end(-1);
        check.due("behind an end that was refused", rows.fault(), due);
        rows.put(2, 0, 5);
        rows.put(2, 9, 5);
        check.due("behind put", rows.fault(), due);
        rows.operate(1, 2, 3, 1);
        rows.operate(1, 2, 10, 1);
        rows.join(1, 2, 2, 1, 1);
        rows.join(1, 2, 2, 1001, 1);
        rows.times(1, 2, 2);
        check.due("behind operate, join, times", rows.fault(), due);
        Twin.answers(rows);
        check.due("behind a read of blanks", rows.fault(), 1 + 8 * 3);
    }

    // ---- Terms 4

    /** "TEXTS of at most 200 bytes". */
    private static void textOf200() {
        for (int n = 198; n <= 200; n++) {
            dueRead(BLANKS.substring(0, n - 1) + "x", 1, 1);
            dueRead("8" + BLANKS.substring(0, n - 1), 0, 8);
            dueRead("-" + BLANKS.substring(0, n - 2) + "3", 0, -3);
            dueFault("x" + BLANKS.substring(0, n - 2) + "y", 1, n - 1);
            dueFault("x" + BLANKS.substring(0, n - 2) + "+", 1, n);
            dueFault(BLANKS.substring(0, n), 1, n);
            dueFault("x^" + BLANKS.substring(0, n - 3) + "9", 2, n - 1);
            dueFault("100000000" + BLANKS.substring(0, n - 11) + "+1", 3, n);
        }
    }

    /** What may stand behind each of these, besides blanks; and whether the text may end there. */
    private static final String[][] PLACES = {
        {"", "0123456789x-", "no"},
        {"-", "0123456789x", "no"},
        {"2", "0123456789x+-", "yes"},
        {"2x", "^+-", "yes"},
        {"x", "^+-", "yes"},
        {"x^", "0123456789", "no"},
        {"x^0", "0123456789+-", "yes"},
        {"x^8", "+-", "yes"},
        {"x+", "0123456789x", "no"},
        {"x-", "0123456789x", "no"},
        {"x^2+3", "0123456789x+-", "yes"},
        {"-x^2-3x", "^+-", "yes"},
        {"x^2+3x^", "0123456789", "no"},
    };

    private static boolean endsWhole(int b, boolean mayEnd) {
        if (b == 32 || b == 10) {
            return mayEnd;
        }
        return b != '+' && b != '-' && b != '^';
    }

    /** "1 what can't stand there", for each byte behind each part of a text. */
    private static void everyByteInEveryPlace() {
        for (String[] place : PLACES) {
            for (int b = 0; b < 256; b++) {
                String text = place[0] + (char) b;
                boolean digit = b >= '0' && b <= '9';
                boolean stands = b == 32 || b == 10 || place[1].indexOf(b) >= 0;
                boolean tooGreat = place[0].endsWith("^") && b == '9' || place[0].endsWith("^0") && b == '9';
                if (place[0].endsWith("^8") && digit) {
                    // the digits as many as stand there are one NUMBER, which is too great
                    dueFault(text, 2, place[0].length() - 1);
                } else if (!stands) {
                    dueFault(text, 1, place[0].length());
                } else if (tooGreat) {
                    dueFault(text, 2, place[0].indexOf('^', place[0].length() - 2) + 1);
                } else {
                    boolean whole = endsWhole(b, place[2].equals("yes"));
                    RootRows rows = fed(text);
                    check.due("read [" + text + "]", rows.read(0), whole);
                    check.due("fault of [" + text + "]", rows.fault(), whole ? 0 : 1 + 8 * text.length());
                }
            }
        }
    }

    /** "blanks (32, 10) between TOKENS .. or not": behind a blank a digit begins another NUMBER. */
    private static void everyByteBehindABlank() {
        for (String[] place : PLACES) {
            boolean behindNumber = place[0].matches(".*[0-9]");
            for (int b = 0; b < 256; b++) {
                boolean digit = b >= '0' && b <= '9';
                boolean stands = b == 32 || b == 10 || place[1].indexOf(b) >= 0 && !(digit && behindNumber);
                for (String blanks : new String[] {" ", "\n", " \n  \n"}) {
                    String text = place[0] + blanks + (char) b;
                    if (!stands) {
                        dueFault(text, 1, text.length() - 1);
                    } else if (place[0].endsWith("^") && b == '9') {
                        dueFault(text, 2, text.length() - 1);
                    } else {
                        boolean whole = endsWhole(b, place[2].equals("yes"));
                        RootRows rows = fed(text);
                        check.due("read [" + text + "]", rows.read(0), whole);
                        check.due("fault of [" + text + "]", rows.fault(), whole ? 0 : 1 + 8 * text.length());
                    }
                }
            }
        }
    }

    /** "2 a NUMBER above 100000000", with digits "as many as stand there". */
    private static void numbersAtTheLimit() {
        String[] within = {"0", "1", "99999999", "100000000", "099999999", "0100000000"};
        String[] beyond = {"100000001", "100000009", "100000010", "110000000", "200000000", "999999999", "1000000000",
            "2147483647", "2147483648", "4294967295", "4294967296", "4294967297", "4394967296", "10000000000",
            "9223372036854775807", "9223372036854775808", "18446744073709551615", "18446744073709551616",
            "18446744073709551617", "18446744073809551616", "100000000000000000000000000000000000000001"};
        for (String number : within) {
            long value = Long.parseLong(number);
            dueRead(number, 0, value);
            dueRead("-" + number, 0, -value);
            dueRead(number + "x", 1, value);
            dueRead("0-" + number + "x^8", 8, -value);
            String zeros = ZEROS.substring(number.length());
            dueRead(zeros + number, 0, value);
            dueRead(zeros.substring(1) + number + "x", 1, value);
        }
        for (String number : beyond) {
            dueFault(number, 2, 0);
            dueFault("-" + number, 2, 1);
            dueFault(" \n" + number + "x", 2, 2);
            dueFault("0-" + number + "x^8", 2, 2);
            dueFault("x+x+ " + number + "y", 2, 5);
            dueFault(ZEROS.substring(number.length()) + number, 2, 0);
        }
        dueRead(ZEROS, 0, 0);
        dueFault("1" + ZEROS.substring(1), 2, 0);
        dueFault("9".repeat(200), 2, 0);
    }

    /** "or, behind ^ , above 8". */
    private static void numbersBehindAPower() {
        for (int k = 0; k <= 8; k++) {
            dueRead("x^" + k, k, 1);
            dueRead("-100000000x^" + k, k, -100000000);
            dueRead("5x^0" + k, k, 5);
            dueRead("x^ \n" + ZEROS.substring(5) + k, k, 1);
        }
        String[] beyond = {"9", "10", "11", "16", "18", "80", "09", "010", "99", "100", "256", "264", "65536", "99999999",
            "100000000", "100000001", "4294967295", "4294967296", "4294967297", "18446744073709551615",
            "18446744073709551616", "18446744073709551617"};
        for (String power : beyond) {
            dueFault("x^" + power, 2, 2);
            dueFault("7x^" + power + "+1", 2, 3);
            dueFault("x + x ^ " + power, 2, 8);
            dueFault("x^" + ZEROS.substring(2 + power.length()) + power, 2, 2);
        }
    }

    /** "told as kind and 8 times the place (a TOKEN's first byte; the end's: the text's length) together". */
    private static void placesAll() {
        for (int n = 0; n <= 200; n++) {
            String blanks = BLANKS.substring(0, n);
            dueFault(blanks, 1, n);
            if (n <= 199) {
                dueFault(blanks + "+", 1, n);
                dueFault(blanks + "-", 1, n + 1);
            }
            if (n <= 191) {
                dueFault(blanks + "100000001", 2, n);
            }
            if (n <= 198) {
                dueFault("x" + blanks + "3", 1, n + 1);
            }
            if (n >= 1 && n <= 198) {
                dueFault("2" + blanks + "3", 1, n + 1);
            }
            if (n <= 195) {
                dueFault("x" + blanks + "1234", 1, n + 1);
            }
            if (n <= 189) {
                dueFault("100000000" + blanks + "+1", 3, n + 11);
            }
        }
    }

    /** "the first along the text: .. If there is none, at the text's length: 3". */
    private static void firstAlongTheText() {
        dueFault("100000001y", 2, 0);
        dueFault("y100000001", 1, 0);
        dueFault("x^9^9", 2, 2);
        dueFault("x^^9", 1, 2);
        dueFault("x^9 + 100000001", 2, 2);
        dueFault("100000001 + x^9", 2, 0);
        dueFault("x 100000001", 1, 2);
        dueFault("100000000 + 1 +", 1, 15);
        dueFault("100000000 + 1 + y", 1, 16);
        dueFault("100000000 + 1 + x^9", 2, 18);
        dueFault("100000000 + 1 + 100000001", 2, 16);
        dueFault("100000000 + 100000000x + 1 + x", 3, 30);
        dueFault("++", 1, 0);
        dueFault("-+", 1, 1);
        dueFault("1--", 1, 2);
        dueFault("1 1 1", 1, 2);
    }

    /** "3 it is no POLYNOMIAL as told": the sum at one power is beyond -100000000 to 100000000. */
    private static void noPolynomial() {
        for (int k = 0; k <= 8; k++) {
            String power = "x^" + k;
            for (String sign : new String[] {"", "-"}) {
                String then = sign.isEmpty() ? "+" : "-";
                long one = sign.isEmpty() ? 1 : -1;
                String most = sign + "99999999" + power + then;
                dueRead(most + "0" + power, k, 99999999 * one);
                dueRead(most + "1" + power, k, 100000000 * one);
                dueFault(most + "2" + power, 3, most.length() + 4);
                String all = sign + "100000000" + power + then;
                dueRead(all + "0" + power, k, 100000000 * one);
                dueFault(all + power, 3, all.length() + 3);
                dueFault(all + "100000000" + power, 3, all.length() + 12);
                String many = sign + "99999999" + power + (then + "99999999" + power).repeat(14);
                dueFault(many, 3, many.length());
            }
        }
        // so many that a sum of ints comes round to a number that would be one
        String round = "100000000" + "+100000000".repeat(19);
        dueFault(round, 3, 199);
        dueFault("-" + round.replace('+', '-'), 3, 200);
    }

    /** "(What stands at one power comes together.)": only what it comes to has to be within the limit. */
    private static void comesTogether() {
        dueRead("100000000+100000000-100000000", 0, 100000000);
        dueRead("-100000000-100000000+100000000", 0, -100000000);
        dueRead("100000000x+1x-x^1", 1, 100000000);
        dueRead("x^8" + "+x^8".repeat(40), 8, 41);
        dueRead("x" + "+x".repeat(99), 1, 100);
        dueRead("1+x-1-x", 0, 0);
        dueRead("5x^0+2", 0, 7);
        dueRead("0x^8+0x+0", 0, 0);
        dueRead("-0", 0, 0);
        dueFault("100000000x^3+x^2+x^3", 3, 20);
        dueRead("100000000x^2-x+x", 2, 100000000);
    }
}
