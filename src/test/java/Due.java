/** Counts the answers that are not as due, and prints them. */
final class Due {
    static final int LOW = -1000000000;
    static final int BEYOND = LOW - 1;
    static final int NONE = LOW - 2;
    static final int STATE = LOW - 3;
    static final int FULL = LOW - 4;
    static final int KIND = LOW - 5;

    private static int asked = 0;
    private static int wrong = 0;

    private Due() {
    }

    static void due(String call, long got, long want) {
        asked++;
        if (got != want) {
            wrong++;
            System.out.println(call + " answered " + got + ", due is " + want);
        }
    }

    /** Feeds a text, eight bytes a word. */
    static void feed(LakeSwimmers x, String text) {
        for (int from = 0; from < text.length(); from += 8) {
            int to = Math.min(text.length(), from + 8);
            long word = 0;
            for (int i = to - 1; i >= from; i--) {
                word = word << 8 | text.charAt(i);
            }
            due("feed of \"" + text + "\" from " + from, x.feed(word, to - from), to);
        }
    }

    /** Feeds one word more, after which so many bytes are due. */
    static void feedMore(LakeSwimmers x, String text, int due) {
        due("feed of \"" + text + "\" behind others", x.feed(text.charAt(0), 1), due);
    }

    /** What text(use) answers for a text on an empty TAPE. */
    static int read(LakeSwimmers x, int use, String text) {
        feed(x, text);
        return x.text(use);
    }

    static void planAll(LakeSwimmers x, int swimmer, int lane) {
        for (int i = 0; i < 4; i++) {
            x.plan(swimmer, i, lane);
        }
    }

    static void finish(String test) {
        System.out.println(test + ": " + asked + " asked, " + wrong + " wrong");
        if (wrong != 0 || asked == 0) {
            System.exit(1);
        }
    }
}
