/** Counts answers that are not the ones due; shared by the tests of the project. */
final class Due {
    static final int NONE = -1, UNKNOWN = -1000000001, OUTSIDE = -1000000002, NOT = -1000000003, FULL = -1000000004;

    private static int asked = 0;
    private static int wrong = 0;

    private Due() {
    }

    static void is(String call, long got, long want) {
        asked++;
        if (got != want) {
            wrong++;
            System.out.println(call + " answered " + got + ", due is " + want);
        }
    }

    /** Feeds a text whose signs are its bytes, eight at a time; the last feed is as short as it must be. */
    static void feed(ShadowAlms x, String text) {
        for (int from = 0; from < text.length(); from += 8) {
            int to = Math.min(text.length(), from + 8);
            long bytes = 0;
            for (int i = from; i < to; i++) {
                bytes = bytes << 8 | text.charAt(i) & 255;
            }
            x.feed(to - from, bytes);
        }
    }

    static ShadowAlms squareOf(String text) {
        ShadowAlms x = new ShadowAlms();
        feed(x, text);
        int beggars = x.square();
        if (beggars < 0) {
            is("square() of " + text, beggars, 0);
        }
        return x;
    }

    static void end() {
        System.out.println(wrong == 0 ? asked + " answers as due" : wrong + " of " + asked + " answers not as due");
        if (wrong != 0) {
            System.exit(1);
        }
    }
}
