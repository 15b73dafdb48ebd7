/** Compares answers with those that are due, and keeps count. */
final class Due {
    static final int BEYOND = -1000000001;
    static final int NONE = -1000000002;
    static final int STATE = -1000000003;
    static final int FULL = -1000000004;
    static final int KIND = -1000000005;

    private static int asked = 0;
    private static int wrong = 0;

    private Due() {
    }

    static void is(String what, long got, long want) {
        asked++;
        if (got != want) {
            wrong++;
            System.out.println(what + ": " + got + ", due is " + want);
        }
    }

    /** A TEXT comes to THE TAPE by as many calls of feed() as it takes. */
    static void type(PailSpeech x, String text) {
        for (int i = 0; i < text.length(); i += 8) {
            int n = Math.min(8, text.length() - i);
            long word = 0;
            for (int j = 0; j < n; j++) {
                word |= (long) text.charAt(i + j) << (8 * j);
            }
            x.feed(word, n);
        }
    }

    /** What text() answers to a TEXT. */
    static int read(PailSpeech x, int use, String text) {
        type(x, text);
        return x.text(use);
    }

    static void end() {
        System.out.println(asked - wrong + " answers as due, " + wrong + " not");
        if (wrong != 0) {
            System.exit(1);
        }
    }
}
