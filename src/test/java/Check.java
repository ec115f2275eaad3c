/** Counts answers that are not the ones that are due, and tells them. */
final class Check {
    private int wrong;
    private int asked;

    void due(String call, long got, long want) {
        asked++;
        if (got != want) {
            wrong++;
            if (wrong <= 50) {
                System.out.println(call + " answered " + got + ", due is " + want);
            }
        }
    }

    void due(String call, boolean got, boolean want) {
        due(call, got ? 1 : 0, want ? 1 : 0);
    }

    /** Ends with exit code 1 if one answer was wrong. */
    void finish(String name) {
        System.out.println(name + ": " + asked + " answers, " + wrong + " not as due");
        if (wrong != 0) {
            System.exit(1);
        }
    }

    /** Puts a text on the tape, which must be empty; false if it did not find room. */
    static boolean feed(RootRows rows, String text) {
        byte[] bytes = new byte[(text.length() + 19) / 20 * 20];
        for (int k = 0; k < bytes.length; k++) {
            bytes[k] = k < text.length() ? (byte) text.charAt(k) : 0;
        }
        for (int k = 0; k < bytes.length; k += 20) {
            int told = rows.feed(word(bytes, k), word(bytes, k + 4), word(bytes, k + 8),
                    word(bytes, k + 12), word(bytes, k + 16));
            if (told != k + 20) {
                return false;
            }
        }
        return rows.end(text.length());
    }

    private static int word(byte[] bytes, int at) {
        return (bytes[at] & 255) << 24 | (bytes[at + 1] & 255) << 16 | (bytes[at + 2] & 255) << 8
                | (bytes[at + 3] & 255);
    }

    /** A new object whose trays 0, 1, .. have the polynomials of the texts. */
    static RootRows of(String... texts) {
        RootRows rows = new RootRows();
        for (int k = 0; k < texts.length; k++) {
            set(rows, k, texts[k]);
        }
        return rows;
    }

    static void set(RootRows rows, int tray, String text) {
        if (!feed(rows, text) || !rows.read(tray)) {
            throw new IllegalStateException("can't read: " + text);
        }
    }
}
