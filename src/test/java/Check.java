/** Compares answers with those that are due, and feeds texts. */
final class Check {
    static final int BEYOND = -1000001;
    static final int FULL = -1000002;
    static final int KIND = -1000003;
    static final int NONE = -1000004;
    static final int STATE = -1000005;
    static final int MISSING = -1000006;
    static final int SIZE = -1000007;

    private int asked = 0;
    private int wrong = 0;

    void due(String call, long got, long want) {
        asked++;
        if (got != want) {
            wrong++;
            System.out.println(call + " answered " + got + ", due is " + want);
        }
    }

    /** Ends the test; it throws, which gives exit code 1, if an answer was wrong, or none was asked for. */
    void finish() {
        System.out.println(asked + " answers, " + wrong + " of them wrong");
        if (wrong > 0 || asked == 0) {
            throw new AssertionError(wrong + " wrong of " + asked);
        }
    }

    /** Text on the tape, a byte for each sign. */
    static void feed(IronCall x, String text) {
        int at = 0;
        while (at < text.length()) {
            int n = Math.min(4, text.length() - at);
            int bytes = 0;
            for (int i = 0; i < n; i++) {
                bytes = bytes << 8 | text.charAt(at + i);
            }
            x.feed(bytes, n);
            at += n;
        }
    }

    static int text(IronCall x, String text) {
        feed(x, text);
        return x.text();
    }

    /** A new object with what a text tells; each item comes alone, so the text may be long. */
    static IronCall from(String text) {
        IronCall x = new IronCall();
        for (String item : text.split(";")) {
            if (text(x, item) != 1) {
                throw new IllegalArgumentException(item);
            }
        }
        return x;
    }

    /** The sheet has just these numbers. */
    static void fill(IronCall x, int s, int bits, int... numbers) {
        x.sheet(s, bits, numbers.length);
        for (int i = 0; i < numbers.length; i++) {
            x.write(s, i, numbers[i]);
        }
    }
}
