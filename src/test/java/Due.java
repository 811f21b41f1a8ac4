/** Compares answers with those that are due, prints the unlike ones, and ends the run. */
final class Due {
    private int asked;
    private int wrong;

    void is(String call, long got, long want) {
        asked++;
        if (got == want) return;
        wrong++;
        if (wrong <= 50) System.out.println(call + " answered " + got + ", due is " + want);
    }

    /** Feeds a text to the tape, up to eight bytes a call. */
    static int feedAll(VaseCourt x, String text) {
        int size = 0;
        for (int i = 0; i < text.length(); i += 8) {
            int n = Math.min(8, text.length() - i);
            long bytes = 0;
            for (int k = 0; k < n; k++) bytes |= (text.charAt(i + k) & 255L) << 8 * k;
            size = x.feed(n, bytes);
        }
        return size;
    }

    static int textOf(VaseCourt x, String text) {
        feedAll(x, text);
        return x.text();
    }

    void end() {
        System.out.println(asked + " answers, " + wrong + " of them not as due");
        if (wrong != 0) System.exit(1);
    }
}
