import java.util.Arrays;

/**
 * Where the document says that something stays: two objects are made alike, one of them gets a call more, and
 * then both are asked everything there is to ask.
 */
final class Twin {
    /** Calls on an object, in their order. */
    interface Steps {
        void on(RootRows rows);
    }

    private static final int QUESTIONS = 400;

    private final RootRows rows;
    private final long[] answers = new long[QUESTIONS];
    private int asked;

    private Twin(RootRows given) {
        rows = given;
    }

    /** All trays, the tape and the fault are as if the call had not been made. */
    static void stays(Check check, String call, Steps before, Steps more) {
        RootRows touched = new RootRows();
        before.on(touched);
        more.on(touched);
        RootRows other = new RootRows();
        before.on(other);
        long[] got = answers(touched);
        long[] due = answers(other);
        check.due(call + ": as many answers", got.length, due.length);
        for (int k = 0; k < due.length && k < got.length; k++) {
            check.due(call + ": all stays, question " + k, got[k], due[k]);
        }
    }

    /** Trays that differ from one another, a fault that is not 0, and a text on the tape. */
    static void fill(RootRows rows) {
        String[] texts = {"x^3-3x+1", "x^2-1", "x", "5", "x^8-2x^4+1", "100000000x^8-100000000", "x^4+4x^3+6x^2+4x+1"};
        for (int tray = 0; tray < texts.length; tray++) {
            Check.set(rows, tray, texts[tray]);
        }
        Check.feed(rows, "x + + 3");
        rows.read(7);
        Check.feed(rows, "7x^3 - 5\n");
    }

    /** The last questions are about the tape, and spend it. */
    static long[] answers(RootRows rows) {
        Twin twin = new Twin(rows);
        twin.note(rows.fault());
        for (int tray = 0; tray < 8; tray++) {
            twin.askTray(tray);
        }
        twin.note(rows.chain(0, 7));
        int length = twin.tapeLength();
        twin.note(length);
        twin.note(rows.read(0) ? 1 : 0);
        twin.note(rows.fault());
        for (int k = 0; k <= 8; k++) {
            twin.note(rows.number(0, k));
        }
        return Arrays.copyOf(twin.answers, twin.asked);
    }

    private void note(long answer) {
        answers[asked] = answer;
        asked++;
    }

    private void askTray(int tray) {
        for (int k = 0; k <= 8; k++) {
            note(rows.number(tray, k));
        }
        for (int what = 0; what <= 7; what++) {
            note(rows.count(tray, what));
        }
        for (int what = 0; what <= 4; what++) {
            note(rows.row(tray, what));
        }
        for (int k = 0; k < 3; k++) {
            note(rows.root(tray, k, 12));
            note(rows.often(tray, k));
        }
        note(rows.between(tray, -5, 5));
        note(rows.sign(tray, 3, 1));
        note(rows.laced(tray, (tray + 1) % 8));
        note(rows.member(tray, 2, 1));
        note(rows.fails(tray));
        note(rows.mean(tray, false));
        note(rows.mean(tray, true));
    }

    /** What feed() tells, less its twenty bytes; where it has no room for them, the greatest n of which end(n) is true. */
    private int tapeLength() {
        int told = rows.feed(0, 0, 0, 0, 0);
        int n = told < 0 ? 200 : told - 20;
        while (n >= 0 && !rows.end(n)) {
            n--;
        }
        return n;
    }
}
