/** Each promise of the document by itself: ordinary inputs, the edges that it names, wrong inputs. */
public final class PromiseTest {
    private static final long NO = RootRows.NO_NUMBER;
    private static final int[] NO_TRAYS = {-1, 8, 9, Integer.MIN_VALUE, Integer.MAX_VALUE};

    private static final Check check = new Check();

    public static void main(String[] args) {
        promise1NewObject();
        promise2Feed();
        promise3End();
        promise4Read();
        promise4ReadTexts();
        promise5FaultKinds();
        promise5FaultPlaces();
        promise6Put();
        promise7OperatorsOrdinary();
        promise7OperatorsAtTheEdges();
        promise7OperatorsWrong();
        promise8Join();
        promise9Times();
        promise10Number();
        promise11Count();
        promise12Root();
        promise13Often();
        promise14Between();
        promise15Sign();
        promise16Laced();
        promise17Chain();
        promise18Member();
        promise19Fails();
        promise20Row();
        promise21Mean();
        answersFollowTheTray();
        check.finish("PromiseTest");
    }

    private static void dueRow(String what, RootRows rows, int tray, long... due) {
        for (int k = 0; k <= 8; k++) {
            check.due(what + " c" + k, rows.number(tray, k), k < due.length ? due[k] : 0);
        }
    }

    private static void promise1NewObject() {
        RootRows rows = new RootRows();
        check.due("NONE", RootRows.NONE, -1);
        check.due("NO_NUMBER", RootRows.NO_NUMBER, -1000000000000000000L);
        for (int tray = 0; tray < 8; tray++) {
            dueRow("new tray " + tray, rows, tray);
            check.due("degree of 0", rows.count(tray, 0), -1);
        }
        check.due("fault() of a new object", rows.fault(), 0);
        check.due("end(0) of a new object", rows.end(0), true);
        check.due("end(1) of a new object", rows.end(1), false);
    }

    private static void promise2Feed() {
        RootRows rows = new RootRows();
        for (int k = 1; k <= 10; k++) {
            check.due("feed " + k, rows.feed(0x20202020, 0x20202020, 0x20202020, 0x20202020, 0x20202020), 20 * k);
        }
        check.due("feed past 200", rows.feed(0, 0, 0, 0, 0), -1);
        check.due("end(200) behind it", rows.end(200), true);
        check.due("feed past 200 again", rows.feed(0, 0, 0, 0, 0), -1);
        check.due("end(181)", rows.end(181), true);
        check.due("feed at 181", rows.feed(0, 0, 0, 0, 0), -1);
        check.due("end(180)", rows.end(180), true);
        check.due("feed at 180", rows.feed(0x31202020, 0x20202020, 0x20202020, 0x20202020, 0x20202020), 200);
        check.due("read a text of 200", rows.read(0), true);
        dueRow("text of 200", rows, 0, 1);

        RootRows order = new RootRows();
        order.feed(0x31327833, 0, 0, 0, 0);
        order.end(3);
        check.due("read 12x", order.read(0), true);
        dueRow("the highest byte first", order, 0, 0, 12);
        order.feed(0x31323334, 0x35363738, 0x782b3031, 0x32333435, 0x3637382d);
        order.end(19);
        check.due("read 12345678x+012345678", order.read(1), true);
        dueRow("five numbers in their order", order, 1, 12345678, 12345678);
    }

    private static void promise3End() {
        RootRows rows = new RootRows();
        check.due("end(-1)", rows.end(-1), false);
        check.due("end(least)", rows.end(Integer.MIN_VALUE), false);
        check.due("end(1) of the empty tape", rows.end(1), false);
        rows.feed(0x31323334, 0x35363738, 0, 0, 0);
        check.due("end(21)", rows.end(21), false);
        check.due("end(greatest)", rows.end(Integer.MAX_VALUE), false);
        check.due("end(-1) with some", rows.end(-1), false);
        check.due("end(20)", rows.end(20), true);
        check.due("end(8)", rows.end(8), true);
        check.due("end(9) behind it", rows.end(9), false);
        check.due("end(3)", rows.end(3), true);
        check.due("read", rows.read(2), true);
        dueRow("first three bytes", rows, 2, 123);
        check.due("the tape is empty then", rows.end(1), false);
    }

    private static void promise4Read() {
        RootRows rows = Check.of("x^2-1");
        for (int tray : NO_TRAYS) {
            Check.feed(rows, "x+");
            check.due("read with a fault", rows.read(0), false);
            check.due("its fault", rows.fault(), 17);
            dueRow("the tray stays", rows, 0, -1, 0, 1);
            check.due("the tape is empty behind a fault", rows.end(1), false);
            Check.feed(rows, "5x");
            check.due("read(" + tray + ")", rows.read(tray), false);
            check.due("the fault stays", rows.fault(), 17);
            check.due("the tape stays", rows.end(2), true);
            check.due("read behind it", rows.read(1), true);
            dueRow("told by the tape that stayed", rows, 1, 0, 5);
            check.due("no fault behind it", rows.fault(), 0);
        }
        Check.set(rows, 0, "7");
        dueRow("the whole tray is new", rows, 0, 7);
    }

    private static void dueText(String text, long... due) {
        RootRows rows = Check.of("9+9x+9x^2+9x^3+9x^4+9x^5+9x^6+9x^7+9x^8");
        Check.feed(rows, text);
        check.due("read " + text, rows.read(0), true);
        check.due("fault of " + text, rows.fault(), 0);
        dueRow(text, rows, 0, due);
    }

    private static void promise4ReadTexts() {
        dueText("0");
        dueText("x-x");
        dueText("x", 0, 1);
        dueText("-x", 0, -1);
        dueText(" - x", 0, -1);
        dueText("-3", -3);
        dueText("007x^08", 0, 0, 0, 0, 0, 0, 0, 0, 7);
        dueText("x^0", 1);
        dueText("5x^1+2x", 0, 7);
        dueText("1+x+x^2+x^3+x^4+x^5+x^6+x^7+x^8", 1, 1, 1, 1, 1, 1, 1, 1, 1);
        dueText(" 3\n x \n^ 2 \n- 4 x + 0 ", 0, -4, 3);
        dueText("100000000-x^8", 100000000, 0, 0, 0, 0, 0, 0, 0, -1);
        dueText("-100000000x^3", 0, 0, 0, -100000000);
        dueText("100000000+100000000-100000000", 100000000);
        dueText("100000000x+x-x", 0, 100000000);
        dueText("-100000000-1+1", -100000000);
        dueText("000000000000000000000000000000000000012", 12);
        dueText(" ".repeat(199) + "x", 0, 1);
        dueText("x" + "+x".repeat(99) + " ", 0, 100);
    }

    private static void dueFault(String text, int kind, int place) {
        RootRows rows = Check.of("x^3");
        check.due("feed " + text, Check.feed(rows, text), true);
        check.due("read " + text, rows.read(0), false);
        check.due("fault of " + text, rows.fault(), kind + 8 * place);
        check.due("fault of " + text + " asked again", rows.fault(), kind + 8 * place);
        dueRow("stays at " + text, rows, 0, 0, 0, 0, 1);
        check.due("empty behind " + text, rows.end(1), false);
        Check.set(rows, 1, "1");
        check.due("none behind " + text, rows.fault(), 0);
    }

    private static void promise5FaultKinds() {
        dueFault("100000001", 2, 0);
        dueFault("99999999999999999999999999999999999999x", 2, 0);
        dueFault("x-100000001x", 2, 2);
        dueFault("x^9", 2, 2);
        dueFault("x^ 10", 2, 3);
        dueFault("x^100000001", 2, 2);
        dueFault("x^8+x^18446744073709551617", 2, 6);
        dueFault("100000000+1", 3, 11);
        dueFault("-100000000x^8-x^8", 3, 17);
        dueFault("100000000x+100000000x", 3, 21);
        dueFault("100000000+1  ", 3, 13);
        dueFault("50000000x+50000001x^1\n", 3, 22);
    }

    private static void promise5FaultPlaces() {
        dueFault("", 1, 0);
        dueFault("   ", 1, 3);
        dueFault("\n", 1, 1);
        dueFault("+x", 1, 0);
        dueFault(" +x", 1, 1);
        dueFault("--x", 1, 1);
        dueFault("-", 1, 1);
        dueFault("- ", 1, 2);
        dueFault("x+", 1, 2);
        dueFault("x+ ", 1, 3);
        dueFault("x++x", 1, 2);
        dueFault("x+-x", 1, 2);
        dueFault("x-+x", 1, 2);
        dueFault("x^", 1, 2);
        dueFault("x^x", 1, 2);
        dueFault("x^-1", 1, 2);
        dueFault("x^2^2", 1, 3);
        dueFault("x^2x", 1, 3);
        dueFault("x^2 2", 1, 4);
        dueFault("xx", 1, 1);
        dueFault("x 2", 1, 2);
        dueFault("x2", 1, 1);
        dueFault("2 3", 1, 2);
        dueFault("2 100000001", 1, 2);
        dueFault("2^3", 1, 1);
        dueFault("^3", 1, 0);
        dueFault("X", 1, 0);
        dueFault("2*x", 1, 1);
        dueFault("2\tx", 1, 1);
        dueFault("2\rx", 1, 1);
        dueFault("x+\u0000", 1, 2);
        dueFault("x+\u00ff1", 1, 2);
        dueFault("x/", 1, 1);
        dueFault("x:", 1, 1);
        dueFault("1.5x", 1, 1);
        dueFault("x^9+ +", 2, 2);
        dueFault("x+ +x^9", 1, 3);
        dueFault("100000000+1+", 1, 12);
        dueFault(" ".repeat(200), 1, 200);
        dueFault("x" + " ".repeat(198) + "y", 1, 199);
        dueFault("1".repeat(200), 2, 0);
        dueFault("x" + "+x".repeat(99) + "+", 1, 200);
        RootRows rows = Check.of("x");
        check.due("an empty read right behind a read", rows.read(0), false);
        check.due("its fault", rows.fault(), 1);
    }

    private static void promise6Put() {
        RootRows rows = new RootRows();
        for (int k = 0; k <= 8; k++) {
            check.due("put(3, " + k + ", ..)", rows.put(3, k, k * 10 - 40), true);
        }
        dueRow("put", rows, 3, -40, -30, -20, -10, 0, 10, 20, 30, 40);
        check.due("put at the limit", rows.put(3, 0, 100000000), true);
        check.due("put at the lower limit", rows.put(3, 8, -100000000), true);
        check.due("put above", rows.put(3, 1, 100000001), false);
        check.due("put below", rows.put(3, 1, -100000001), false);
        check.due("put greatest", rows.put(3, 1, Integer.MAX_VALUE), false);
        check.due("put least", rows.put(3, 1, Integer.MIN_VALUE), false);
        check.due("put at 9", rows.put(3, 9, 1), false);
        check.due("put at -1", rows.put(3, -1, 1), false);
        check.due("put at greatest", rows.put(3, Integer.MAX_VALUE, 1), false);
        for (int tray : NO_TRAYS) {
            check.due("put(" + tray + ")", rows.put(tray, 0, 1), false);
        }
        dueRow("behind wrong puts", rows, 3, 100000000, -30, -20, -10, 0, 10, 20, 30, -100000000);
        dueRow("another tray", rows, 2);
    }

    private static void dueOperator(String text, int operator, int a, long... due) {
        RootRows rows = Check.of(text, "5x^8+5");
        check.due("operate " + operator + " by " + a + " on " + text, rows.operate(1, 0, operator, a), true);
        dueRow("operator " + operator + " by " + a + " on " + text, rows, 1, due);
        check.due("in its own tray", rows.operate(0, 0, operator, a), true);
        dueRow("in its own tray, " + operator + " by " + a + " on " + text, rows, 0, due);
    }

    private static void promise7OperatorsOrdinary() {
        String p = "1+2x+3x^2-4x^3";
        dueOperator(p, 0, 77, 2, 6, -12);
        dueOperator(p, 1, 77, 0, 2, 6, -12);
        dueOperator(p, 2, 10, 21, 62, -117, -4);
        dueOperator(p, 2, -1, -1, -4, 15, -4);
        dueOperator(p, 3, 5, 5, 11, 17, -17, -4);
        dueOperator(p, 4, 2, -15, -34, -21, -4);
        dueOperator(p, 4, -1, 6, -16, 15, -4);
        dueOperator(p, 5, 77, -4, 3, 2, 1);
        dueOperator("x^2+5x^4", 5, 0, 5, 0, 1);
        dueOperator(p, 6, -3, 1, -6, 27, 108);
        dueOperator(p, 6, 0, 1);
        dueOperator(p, 7, 3, 1, 2 + 3 + 2, 3 + 6 + 6 - 2, -4 + 9 - 12 - 6, -12 + 12);
        dueOperator(p, 8, 77, 0, 1 + 2, 2 + 6, 3 - 12, -4);
        dueOperator(p, 9, 77, 1, 2, 6, -24);
        dueOperator("x^8+x^7+x^6+x^5+x^4", 9, 0, 0, 0, 0, 0, 24, 120, 720, 5040, 40320);
        for (int operator = 0; operator <= 9; operator++) {
            dueOperator("0", operator, 1000);
        }
        dueOperator("7", 0, 0);
        dueOperator("7", 5, 0, 7);
    }

    private static void promise7OperatorsAtTheEdges() {
        dueOperator("x^7", 3, 1000, 0, 0, 0, 0, 0, 0, 0, 1000, 1);
        dueOperator("x^7", 3, -1000, 0, 0, 0, 0, 0, 0, 0, -1000, 1);
        dueOperator("x^8", 7, 8, 0, 0, 0, 0, 0, 0, 0, 0, 9);
        dueOperator("x^8+1", 0, 0, 0, 0, 0, 0, 0, 0, 0, 8);
        dueOperator("100000000x", 0, 0, 100000000);
        dueOperator("12500000x^8", 1, 0, 0, 0, 0, 0, 0, 0, 0, 0, 100000000);
        dueOperator("x^2", 4, 1000, 1000000, 2000, 1);
        dueOperator("100000000", 6, 1000, 100000000);
        dueOperator("100x^2", 6, -1000, 0, 0, 100000000);
        dueOperator("100000x", 6, -1000, 0, -100000000);
        dueOperator("-100x^2", 6, 1000, 0, 0, -100000000);
        dueOperator("x^8-16x^7+112x^6-448x^5+1120x^4-1792x^3+1792x^2-1024x+256", 4, 2,
                0, 0, 0, 0, 0, 0, 0, 0, 1);
        dueOperator("100000000x^2-100000000", 4, 0, -100000000, 0, 100000000);
    }

    private static void dueRefused(String text, int operator, int a) {
        RootRows rows = Check.of(text, "5x^8+5");
        check.due("operate " + operator + " by " + a + " on " + text, rows.operate(1, 0, operator, a), false);
        dueRow("stays", rows, 1, 5, 0, 0, 0, 0, 0, 0, 0, 5);
        RootRows same = Check.of(text, text);
        check.due("in its own tray", same.operate(0, 0, operator, a), false);
        for (int k = 0; k <= 8; k++) {
            check.due("stays in its own tray", same.number(0, k), same.number(1, k));
        }
    }

    private static void promise7OperatorsWrong() {
        RootRows rows = Check.of("x");
        for (int tray : NO_TRAYS) {
            check.due("operate in " + tray, rows.operate(tray, 0, 0, 0), false);
            check.due("operate from " + tray, rows.operate(0, tray, 0, 0), false);
        }
        dueRow("stays", rows, 0, 0, 1);
        for (int operator = 0; operator <= 9; operator++) {
            dueRefused("x", operator, 1001);
            dueRefused("x", operator, -1001);
            dueRefused("x", operator, Integer.MIN_VALUE);
        }
        dueRefused("x", -1, 0);
        dueRefused("x", 10, 0);
        dueRefused("x", Integer.MAX_VALUE, 0);
        dueRefused("x^8", 3, 0);
        dueRefused("x^8", 7, 7);
        dueRefused("x^8", 8, 0);
        dueRefused("50000001x^2", 0, 0);
        dueRefused("50000001x^2", 1, 0);
        dueRefused("100001x", 2, 1000);
        dueRefused("100001", 3, 1000);
        dueRefused("x^8+x", 4, 1000);
        dueRefused("x^3", 4, -1000);
        dueRefused("101x^2", 6, 1000);
        dueRefused("-101x^2", 6, 1000);
        dueRefused("x^8", 6, -1000);
        dueRefused("100000000", 7, 2);
        dueRefused("2481x^8", 9, 0);
        dueRefused("100000000x^8-100000000x^7+100000000x^6", 4, 1000);
    }

    private static void promise8Join() {
        RootRows rows = Check.of("1+2x-3x^3", "x-x^8");
        check.due("join", rows.join(2, 0, 1, 1000, -1000), true);
        dueRow("join", rows, 2, 1000, 1000, 0, -3000, 0, 0, 0, 0, 1000);
        check.due("join in the same", rows.join(0, 0, 0, 2, 3), true);
        dueRow("join in the same", rows, 0, 5, 10, 0, -15);
        check.due("join by 0", rows.join(3, 0, 1, 0, 0), true);
        dueRow("join by 0", rows, 3);
        check.due("a above", rows.join(2, 0, 1, 1001, 0), false);
        check.due("a below", rows.join(2, 0, 1, -1001, 0), false);
        check.due("b above", rows.join(2, 0, 1, 0, 1001), false);
        check.due("b below", rows.join(2, 0, 1, 0, Integer.MIN_VALUE), false);
        for (int tray : NO_TRAYS) {
            check.due("join in " + tray, rows.join(tray, 0, 1, 1, 1), false);
            check.due("join one " + tray, rows.join(2, tray, 1, 1, 1), false);
            check.due("join other " + tray, rows.join(2, 0, tray, 1, 1), false);
        }
        rows.put(4, 5, 100000000);
        rows.put(5, 5, 1);
        check.due("beyond the limit", rows.join(2, 4, 5, 1, 1), false);
        check.due("beyond the lower limit", rows.join(2, 4, 5, -1, -1), false);
        check.due("far beyond", rows.join(2, 4, 4, 1000, 1000), false);
        dueRow("stays", rows, 2, 1000, 1000, 0, -3000, 0, 0, 0, 0, 1000);
        check.due("back within", rows.join(2, 4, 4, 1000, -999), true);
        dueRow("back within", rows, 2, 0, 0, 0, 0, 0, 100000000);
    }

    private static void promise9Times() {
        RootRows rows = Check.of("1+2x-3x^3", "x-x^5", "10000x^4", "x^4+1", "x^5");
        check.due("times", rows.times(5, 0, 1), true);
        dueRow("times", rows, 5, 0, 1, 2, 0, -3, -1, -2, 0, 3);
        check.due("a square in place", rows.times(2, 2, 2), true);
        dueRow("a square in place", rows, 2, 0, 0, 0, 0, 0, 0, 0, 0, 100000000);
        check.due("in the place of one", rows.times(3, 3, 3), true);
        dueRow("in the place of one", rows, 3, 1, 0, 0, 0, 2, 0, 0, 0, 1);
        check.due("degree 9", rows.times(5, 4, 0), true);
        dueRow("degree 8", rows, 5, 0, 0, 0, 0, 0, 1, 2, 0, -3);
        check.due("degree 10", rows.times(5, 4, 4), false);
        check.due("degree 16", rows.times(5, 2, 2), false);
        check.due("by 0", rows.times(6, 2, 7), true);
        dueRow("by 0", rows, 6);
        rows.put(6, 0, 10001);
        check.due("beyond the limit", rows.times(5, 6, 6), false);
        for (int tray : NO_TRAYS) {
            check.due("times in " + tray, rows.times(tray, 0, 1), false);
            check.due("times one " + tray, rows.times(5, tray, 1), false);
            check.due("times other " + tray, rows.times(5, 0, tray), false);
        }
        dueRow("stays", rows, 5, 0, 0, 0, 0, 0, 1, 2, 0, -3);
    }

    private static void promise10Number() {
        RootRows rows = Check.of("5-7x^8");
        check.due("number(0, 0)", rows.number(0, 0), 5);
        check.due("number(0, 8)", rows.number(0, 8), -7);
        check.due("number(0, 4)", rows.number(0, 4), 0);
        check.due("number(0, 9)", rows.number(0, 9), NO);
        check.due("number(0, -1)", rows.number(0, -1), NO);
        check.due("number(0, least)", rows.number(0, Integer.MIN_VALUE), NO);
        for (int tray : NO_TRAYS) {
            check.due("number(" + tray + ", 0)", rows.number(tray, 0), NO);
        }
    }

    private static void dueCounts(String text, int... due) {
        RootRows rows = Check.of(text);
        for (int what = 0; what <= 7; what++) {
            check.due("count(" + what + ") of " + text, rows.count(0, what), due[what]);
        }
        check.due("count(-1)", rows.count(0, -1), -1);
        check.due("count(8)", rows.count(0, 8), -1);
        check.due("count(least)", rows.count(0, Integer.MIN_VALUE), -1);
    }

    private static void promise11Count() {
        // degree, roots, lack, unlike, most, whole, members, counts
        dueCounts("0", -1, 0, -1, 0, 0, 0, 0, 1);
        dueCounts("5", 0, 0, 0, 0, 0, 1, 0, 1);
        dueCounts("-5", 0, 0, 0, 0, 0, 1, 0, 0);
        dueCounts("3x+1", 1, 1, 0, 1, 1, 1, 2, 1);
        dueCounts("x^2+1", 2, 0, 2, 0, 0, 0, 3, 1);
        dueCounts("x^8", 8, 8, 0, 1, 8, 1, 2, 1);
        dueCounts("-x^8+1", 8, 2, 6, 2, 1, 0, 3, 0);
        dueCounts("x^3-3x+2", 3, 3, 0, 2, 2, 1, 3, 0);
        dueCounts("x^4+2x^2+1", 4, 0, 4, 0, 0, 0, 3, 1);
        // (x^2+1)^2 (x-1)^3 x
        dueCounts("x^8-3x^7+5x^6-7x^5+7x^4-5x^3+3x^2-x", 8, 4, 4, 2, 3, 0, 5, 0);
        dueCounts("1+8x+28x^2+56x^3+70x^4+56x^5+28x^6+8x^7+x^8", 8, 8, 0, 1, 8, 1, 2, 1);
        RootRows rows = new RootRows();
        for (int tray : NO_TRAYS) {
            for (int what = 0; what <= 7; what++) {
                check.due("count(" + tray + ", " + what + ")", rows.count(tray, what), -1);
            }
        }
    }

    private static void promise12Root() {
        RootRows rows = Check.of("x^2-2", "2x^3-3x^2-11x+6", "x^8-100000000", "100000000x-1", "x-100000000",
                "x+100000000", "3x+1", "x^2+1");
        check.due("root 2, s 0", rows.root(0, 1, 0), 1);
        check.due("root 2, s 1", rows.root(0, 1, 1), 2);
        check.due("root 2, s 12", rows.root(0, 1, 12), 5792);
        check.due("-root 2, s 0", rows.root(0, 0, 0), -2);
        check.due("-root 2, s 1", rows.root(0, 0, 1), -3);
        check.due("-root 2, s 12", rows.root(0, 0, 12), -5793);
        check.due("s 13", rows.root(0, 0, 13), NO);
        check.due("s -1", rows.root(0, 0, -1), NO);
        check.due("k 2", rows.root(0, 2, 0), NO);
        check.due("k -1", rows.root(0, -1, 0), NO);
        check.due("k greatest", rows.root(0, Integer.MAX_VALUE, 0), NO);
        check.due("-2", rows.root(1, 0, 12), -8192);
        check.due("1/2, s 0", rows.root(1, 1, 0), 0);
        check.due("1/2, s 1", rows.root(1, 1, 1), 1);
        check.due("1/2, s 12", rows.root(1, 1, 12), 2048);
        check.due("3", rows.root(1, 2, 0), 3);
        check.due("10, s 12", rows.root(2, 1, 12), 40960);
        check.due("-10, s 0", rows.root(2, 0, 0), -10);
        check.due("just above 0", rows.root(3, 0, 12), 0);
        check.due("at the limit", rows.root(4, 0, 12), 409600000000L);
        check.due("at the lower limit", rows.root(5, 0, 12), -409600000000L);
        check.due("-1/3, s 0", rows.root(6, 0, 0), -1);
        check.due("-1/3, s 12", rows.root(6, 0, 12), -1366);
        check.due("without roots", rows.root(7, 0, 0), NO);
        rows.put(7, 2, 0);
        check.due("a number", rows.root(7, 0, 0), NO);
        rows.put(7, 0, 0);
        check.due("0", rows.root(7, 0, 0), NO);
        for (int tray : NO_TRAYS) {
            check.due("root(" + tray + ")", rows.root(tray, 0, 0), NO);
        }
        // the greatest root that there may be is below 100000001
        Check.set(rows, 0, "x^2-100000000x-100000000");
        check.due("greatest", rows.root(0, 1, 0), 100000000);
        check.due("its fellow", rows.root(0, 0, 12), -4096);
    }

    private static void promise13Often() {
        // (x+1)^2 x^3 (x-2) (x^2+1)
        RootRows rows = Check.of("x^8-2x^6-2x^5-3x^4-2x^3", "x^4-4x^2+4", "5", "x^2+1");
        int[] due = {2, 2, 3, 3, 3, 1};
        for (int k = 0; k < due.length; k++) {
            check.due("often(0, " + k + ")", rows.often(0, k), due[k]);
        }
        check.due("often(0, 6)", rows.often(0, 6), -1);
        check.due("often(0, -1)", rows.often(0, -1), -1);
        for (int k = 0; k < 4; k++) {
            check.due("often(1, " + k + ")", rows.often(1, k), 2);
        }
        check.due("of a number", rows.often(2, 0), -1);
        check.due("without roots", rows.often(3, 0), -1);
        check.due("of 0", rows.often(7, 0), -1);
        for (int tray : NO_TRAYS) {
            check.due("often(" + tray + ", 0)", rows.often(tray, 0), -1);
        }
        // 2378 / 3363 nears the root of 1/2 to about 2^-24, nearer than the 4096th parts
        Check.set(rows, 4, "2x^2-1");
        Check.set(rows, 5, "3363x-2378");
        rows.times(6, 5, 4);
        check.due("times", rows.times(6, 6, 5), true);
        check.due("roots", rows.count(6, 1), 4);
        check.due("lowest", rows.often(6, 0), 1);
        check.due("twice", rows.often(6, 1), 2);
        check.due("twice, too", rows.often(6, 2), 2);
        check.due("once behind", rows.often(6, 3), 1);
        check.due("the same place", rows.root(6, 1, 12), rows.root(6, 3, 12));
    }

    private static void promise14Between() {
        // (x+2)^2 (x-1) (x-3)^3 and (x^2-2)
        RootRows rows = Check.of("x^6-6x^5+x^4+48x^3-63x^2-54x-108", "x^2-2", "5");
        Check.set(rows, 3, "x+2");
        Check.set(rows, 4, "x-1");
        Check.set(rows, 5, "x-3");
        rows.times(0, 3, 3);
        rows.times(0, 0, 4);
        rows.times(0, 0, 5);
        rows.times(0, 0, 5);
        rows.times(0, 0, 5);
        check.due("all", rows.between(0, -3, 3), 6);
        check.due("far", rows.between(0, Integer.MIN_VALUE, Integer.MAX_VALUE), 6);
        check.due("above a", rows.between(0, -2, 3), 4);
        check.due("not above b", rows.between(0, -3, -2), 2);
        check.due("below", rows.between(0, -3, 2), 3);
        check.due("empty", rows.between(0, 3, 3), 0);
        check.due("empty at a root", rows.between(0, 1, 1), 0);
        check.due("one", rows.between(0, 0, 1), 1);
        check.due("a above b", rows.between(0, 1, 0), -1);
        check.due("a far above b", rows.between(0, Integer.MAX_VALUE, Integer.MIN_VALUE), -1);
        check.due("irrational", rows.between(1, 1, 2), 1);
        check.due("irrational, below", rows.between(1, -2, -1), 1);
        check.due("irrational, none", rows.between(1, -1, 1), 0);
        check.due("a number", rows.between(2, -9, 9), 0);
        check.due("0", rows.between(7, -9, 9), 0);
        check.due("0, a above b", rows.between(7, 9, -9), -1);
        Check.set(rows, 6, "x-100000000");
        check.due("at the limit", rows.between(6, 99999999, 100000000), 1);
        check.due("above the limit", rows.between(6, 100000000, Integer.MAX_VALUE), 0);
        for (int tray : NO_TRAYS) {
            check.due("between(" + tray + ")", rows.between(tray, 0, 1), -1);
        }
    }

    private static void promise15Sign() {
        RootRows rows = Check.of("4x^2-1", "x^8-x^7", "-3", "100000000x^8-100000000x^7", "4096x+1");
        check.due("at 1/2", rows.sign(0, 1, 1), 0);
        check.due("at -1/2", rows.sign(0, -2048, 12), 0);
        check.due("at 2049/4096", rows.sign(0, 2049, 12), 1);
        check.due("at 2047/4096", rows.sign(0, 2047, 12), -1);
        check.due("at 0", rows.sign(0, 0, 0), -1);
        check.due("at 0, s 12", rows.sign(0, 0, 12), -1);
        check.due("s 13", rows.sign(0, 0, 13), -2);
        check.due("s -1", rows.sign(0, 0, -1), -2);
        check.due("s 32", rows.sign(0, 1, 32), -2);
        check.due("greatest", rows.sign(1, Integer.MAX_VALUE, 0), 1);
        check.due("least", rows.sign(1, Integer.MIN_VALUE, 0), 1);
        check.due("at 1", rows.sign(1, 4096, 12), 0);
        check.due("below 1", rows.sign(1, 4095, 12), -1);
        check.due("a number", rows.sign(2, 5, 0), -1);
        check.due("0", rows.sign(7, 5, 3), 0);
        check.due("great numbers", rows.sign(3, Integer.MAX_VALUE, 12), 1);
        check.due("great numbers, below 1", rows.sign(3, 4095, 12), -1);
        check.due("great numbers, below 0", rows.sign(3, Integer.MIN_VALUE, 12), 1);
        check.due("-1/4096", rows.sign(4, -1, 12), 0);
        Check.set(rows, 5, "x^8-1");
        check.due("the last number decides", rows.sign(5, 1, 12), -1);
        Check.set(rows, 5, "100000000x^8-x");
        check.due("the last but one decides", rows.sign(5, -1, 12), 1);
        for (int tray : NO_TRAYS) {
            check.due("sign(" + tray + ")", rows.sign(tray, 0, 0), -2);
        }
    }

    private static void dueLaced(String one, String other, int due) {
        RootRows rows = Check.of(one, other);
        check.due("laced " + one + " , " + other, rows.laced(0, 1), due);
    }

    private static void promise16Laced() {
        dueLaced("x^2-1", "x", 1);
        dueLaced("x^2-1", "-x", 1);
        dueLaced("-x^2+1", "x", 1);
        dueLaced("x^2-1", "x-1", 1);
        dueLaced("x^2-1", "x+1", 1);
        dueLaced("x^2-1", "x-2", 0);
        dueLaced("x^2-1", "x+2", 0);
        dueLaced("x", "x^2-1", 0);
        dueLaced("x-1", "x", 1);
        dueLaced("x", "x-1", 0);
        dueLaced("-x", "x-1", 0);
        dueLaced("1-x", "x", 1);
        dueLaced("x", "x", 1);
        dueLaced("x", "-5x", 1);
        dueLaced("x^2-1", "x^2-1", 1);
        dueLaced("x^2-4", "x^2+2x-3", 1);
        dueLaced("x^2+2x-3", "x^2-4", 0);
        dueLaced("x^2-4", "x^2-1", 0);
        dueLaced("x^3-x", "x", 0);
        dueLaced("5", "3", 1);
        dueLaced("5", "-3", 1);
        dueLaced("x", "3", 1);
        dueLaced("3", "x", 0);
        dueLaced("x^2", "3", 0);
        dueLaced("0", "0", 0);
        dueLaced("0", "3", 0);
        dueLaced("3", "0", 0);
        dueLaced("x", "0", 0);
        dueLaced("x^2+1", "x", 0);
        dueLaced("x^3-x", "x^2+1", 0);
        dueLaced("x^3", "x^2", 1);
        dueLaced("x^3-x^2", "x^2", 1);
        dueLaced("x^3-x^2", "x^2-2x+1", 0);
        dueLaced("x^8", "8x^7", 1);
        dueLaced("x^4-2x^2+1", "x^3-x", 1);
        dueLaced("x^4-2x^2+1", "x^3+x^2-x-1", 1);
        RootRows rows = Check.of("x", "1");
        for (int tray : NO_TRAYS) {
            check.due("laced(" + tray + ", 0)", rows.laced(tray, 0), -1);
            check.due("laced(0, " + tray + ")", rows.laced(0, tray), -1);
        }
    }

    private static void promise17Chain() {
        RootRows rows = Check.of("1", "x", "x^2-1", "x^3-3x", "x^4-6x^2+3", "x^5-10x^3+15x",
                "x^6-15x^4+45x^2-15", "x^7-21x^5+105x^3-105x");
        check.due("all", rows.chain(0, 7), -1);
        check.due("none between", rows.chain(3, 3), -1);
        check.due("turned round", rows.chain(7, 0), -1);
        Check.set(rows, 4, "x^4-6x^2-3");
        check.due("at the first", rows.chain(0, 7), 3);
        check.due("from 3", rows.chain(3, 7), 3);
        check.due("from 4", rows.chain(4, 7), 4);
        check.due("from 5", rows.chain(5, 7), -1);
        check.due("to 3", rows.chain(0, 3), -1);
        check.due("to 4", rows.chain(0, 4), 3);
        for (int tray : NO_TRAYS) {
            check.due("chain(" + tray + ", 0)", rows.chain(tray, 0), -2);
            check.due("chain(0, " + tray + ")", rows.chain(0, tray), -2);
        }
        check.due("of 0", new RootRows().chain(0, 1), 0);
    }

    private static void dueMembers(String text, int... degreesAndSigns) {
        RootRows rows = Check.of(text);
        int n = degreesAndSigns.length / 2;
        for (int j = 0; j < n; j++) {
            check.due("degree of member " + j + " of " + text, rows.member(0, j, 0), degreesAndSigns[2 * j]);
            check.due("sign of member " + j + " of " + text, rows.member(0, j, 1), degreesAndSigns[2 * j + 1]);
        }
        check.due("behind the last of " + text, rows.member(0, n, 0), -1);
        check.due("behind the last, sign", rows.member(0, n, 1), -1);
        check.due("member -1", rows.member(0, -1, 0), -1);
        check.due("member greatest", rows.member(0, Integer.MAX_VALUE, 1), -1);
        check.due("what 2", rows.member(0, 0, 2), -1);
        check.due("what -1", rows.member(0, 0, -1), -1);
        check.due("how many of " + text, rows.count(0, 6), n);
    }

    private static void promise18Member() {
        dueMembers("0");
        dueMembers("7");
        dueMembers("x", 1, 1, 0, 1);
        dueMembers("3-2x", 1, -1, 0, -1);
        dueMembers("x^2+1", 2, 1, 1, 1, 0, -1);
        dueMembers("-x^2-1", 2, -1, 1, -1, 0, 1);
        dueMembers("x^2", 2, 1, 1, 1);
        // x^4+x: 4x^3+1, -3/4 x, -1
        dueMembers("x^4+x", 4, 1, 3, 1, 1, -1, 0, -1);
        // x^5+1: 5x^4, -1
        dueMembers("x^5+1", 5, 1, 4, 1, 0, -1);
        dueMembers("x^8-1", 8, 1, 7, 1, 0, 1);
        // x^3-3x+2: 3x^2-3, 2x-2
        dueMembers("x^3-3x+2", 3, 1, 2, 1, 1, 1);
        dueMembers("2-3x+x^3", 3, 1, 2, 1, 1, 1);
        RootRows rows = new RootRows();
        for (int tray : NO_TRAYS) {
            check.due("member(" + tray + ")", rows.member(tray, 0, 0), -1);
        }
    }

    private static void dueFails(String text, int due) {
        check.due("fails of " + text, Check.of(text).fails(0), due);
    }

    private static void promise19Fails() {
        dueFails("0", -2);
        dueFails("7", -2);
        dueFails("x", -1);
        dueFails("-x+5", -1);
        dueFails("x^2-1", -1);
        dueFails("1-x^2", -1);
        dueFails("x^2", 2);
        dueFails("x^2+1", 2);
        dueFails("x^3-3x+2", 3);
        dueFails("x^3+x", 2);
        dueFails("x^4+x", 2);
        dueFails("x^8-1", 2);
        dueFails("x^8", 2);
        dueFails("x^3-3x+3", 3);
        // x^4-2x^2+1: 4x^3-4x, x^2-1
        dueFails("x^4-2x^2+1", 3);
        dueFails("x^7-21x^5+105x^3-105x", -1);
        RootRows rows = new RootRows();
        for (int tray : NO_TRAYS) {
            check.due("fails(" + tray + ")", rows.fails(tray), -2);
        }
    }

    private static void dueRows(String text, int... due) {
        RootRows rows = Check.of(text);
        for (int what = 0; what <= 4; what++) {
            check.due("row(" + what + ") of " + text, rows.row(0, what), due[what]);
        }
        check.due("row(5)", rows.row(0, 5), -1);
        check.due("row(-1)", rows.row(0, -1), -1);
        check.due("row(least)", rows.row(0, Integer.MIN_VALUE), -1);
    }

    private static void promise20Row() {
        // first against Newton, first not concave, holes, hump, modes
        dueRows("0", -2, -2, -2, -2, -2);
        dueRows("5", 0, 0, 0, 1, 1);
        dueRows("-5", 0, 0, 0, 1, 1);
        dueRows("1+x", 0, 0, 0, 1, 3);
        dueRows("1+2x+x^2", 0, 0, 0, 1, 2);
        dueRows("1+x+x^2", 1, 0, 0, 1, 7);
        dueRows("2+2x+3x^2", 1, 1, 0, 1, 4);
        dueRows("1+5x+x^2+x^3", 2, 2, 0, 1, 2);
        dueRows("1+x^2", 1, 1, 2, 0, 5);
        dueRows("x^2+x^5", 0, 0, 24, 0, 36);
        dueRows("x^8", 0, 0, 0, 1, 256);
        dueRows("1+x^8", 0, 0, 254, 0, 257);
        dueRows("1-x", 0, 0, 0, 1, 1);
        dueRows("-1+x^2", 0, 0, 2, 1, 4);
        dueRows("-1-2x-x^2", 0, 0, 0, 0, 5);
        dueRows("3+x+2x^2+x^3", 1, 1, 0, 0, 1);
        dueRows("1+2x+2x^2+x^3+x^4", 1, 3, 0, 1, 6);
        dueRows("100000000+100000000x+100000000x^2+100000000x^3+100000000x^4+100000000x^5+100000000x^6"
                + "+100000000x^7+100000000x^8", 1, 0, 0, 1, 511);
        dueRows("1-100000000x^4-100000000x^8", 0, 0, 238, 0, 1);
        RootRows rows = new RootRows();
        for (int tray : NO_TRAYS) {
            for (int what = 0; what <= 4; what++) {
                check.due("row(" + tray + ")", rows.row(tray, what), -1);
            }
        }
    }

    private static void dueMean(String text, long upper, long lower) {
        RootRows rows = Check.of(text);
        check.due("mean of " + text, rows.mean(0, false), upper);
        check.due("lower of " + text, rows.mean(0, true), lower);
    }

    private static void promise21Mean() {
        dueMean("0", NO, NO);
        dueMean("x-1", NO, NO);
        dueMean("7", 0, 1);
        dueMean("-7", 0, 1);
        dueMean("x", 1, 1);
        dueMean("1+2x+x^2", 1, 1);
        dueMean("1+3x+3x^2+x^3", 3, 2);
        dueMean("-1-3x-3x^2-x^3", 3, 2);
        dueMean("x-3", -1, 2);
        dueMean("3-x", -1, 2);
        dueMean("1+11x+11x^2+x^3", 3, 2);
        dueMean("2+4x^8", 16, 3);
        dueMean("100000000x^8+99999999", 800000000, 199999999);
        RootRows rows = new RootRows();
        for (int tray : NO_TRAYS) {
            check.due("mean(" + tray + ")", rows.mean(tray, false), NO);
            check.due("lower(" + tray + ")", rows.mean(tray, true), NO);
        }
    }

    /** What has been found out about a tray is forgotten as soon as something else comes in it. */
    private static void answersFollowTheTray() {
        RootRows rows = Check.of("x^2-1", "x^2+1", "x");
        check.due("roots", rows.count(0, 1), 2);
        check.due("root", rows.root(0, 1, 0), 1);
        rows.put(0, 0, -4);
        check.due("behind put", rows.root(0, 1, 0), 2);
        check.due("often behind put", rows.often(0, 0), 1);
        rows.put(0, 0, 0);
        check.due("often behind another put", rows.often(0, 0), 2);
        Check.set(rows, 0, "x^3");
        check.due("behind read", rows.often(0, 0), 3);
        rows.operate(0, 0, 0, 0);
        check.due("behind operate", rows.often(0, 0), 2);
        rows.join(0, 0, 1, 1, 1);
        check.due("behind join", rows.count(0, 5), 0);
        rows.times(0, 1, 2);
        check.due("behind times", rows.count(0, 1), 1);
        check.due("fails behind times", rows.fails(0), 2);
        rows.put(0, 1, 100000001);
        check.due("behind a put that was refused", rows.count(0, 1), 1);
        check.due("another tray", rows.count(2, 1), 1);
        check.due("between", rows.between(2, -1, 0), 1);
        check.due("the first again", rows.root(0, 0, 12), 0);
    }
}
