/** Where the sentences of Terms 2 and of promises 12 to 14 have their edges. */
public final class TextEdgeTest {
    private static final int LEAST = Integer.MIN_VALUE;
    private static final int MOST = Integer.MAX_VALUE;

    public static void main(String[] args) {
        bytesOfWords();
        fiftyBytes();
        fullTape();
        emptyTape();
        textKeepsOrEmpties();
        digits();
        fiveOpen();
        everyByte();
        tooEarly();
        oneComparison();
        truth();
        wraps();
        cuts();
        flowsHeld();
        catchHeld();
        withoutText();
        usesApart();
        Due.finish("TextEdgeTest");
    }

    private static void fault(String text, int place) {
        Due.due("fault of " + text, Due.read(new LakeSwimmers(), 0, text), -10 - place);
    }

    private static void sound(String text) {
        Due.due("sound: " + text, Due.read(new LakeSwimmers(), 0, text), 1);
    }

    /** What a text of no more than 50 bytes works out, seen whole by comparing: FLOWS holds within 30. */
    private static void works(String text, int a, int b, int c, int due) {
        LakeSwimmers x = new LakeSwimmers();
        Due.due("sound: " + text, Due.read(x, 0, text), 1);
        Due.due(text + " of " + a + ", " + b + ", " + c, x.law(0, a, b, c), due);
    }

    // ---- THE TAPE

    /** "The n lowest bytes (1 .. 8) of a word, the lowest first": all else of the word doesn't matter */
    private static void bytesOfWords() {
        String text = "1+2+3+4+";
        for (int n = 1; n <= 8; n++) {
            long word = -1L;
            for (int i = n - 1; i >= 0; i--) {
                word = word << 8 | text.charAt(i);
            }
            LakeSwimmers x = new LakeSwimmers();
            Due.due("feed(.., " + n + ")", x.feed(word, n), n);
            if (n % 2 == 0) {
                Due.due("and a last one", x.feed('5', 1), n + 1);
            }
            Due.due("text", x.text(0), 1);
            int half = (n + 1) / 2;
            Due.due("its sum", x.law(0, 0, 0, 0), half * (half + 1) / 2 + (n % 2 == 0 ? 5 : 0));
        }
        long[] words = {Long.MIN_VALUE, Long.MAX_VALUE, -1L, 0L};
        for (long w : words) {
            LakeSwimmers x = new LakeSwimmers();
            Due.due("feed(" + w + ", 8)", x.feed(w, 8), 8);
            Due.due("feed(" + w + ", 0)", x.feed(w, 0), Due.BEYOND);
            Due.due("feed(" + w + ", 9)", x.feed(w, 9), Due.BEYOND);
            Due.due("a byte with which nothing begins", x.text(0), -10);
        }
    }

    /** "THE TAPE (bytes, at most 50)": to 50 by each number of bytes, and no further */
    private static void fiftyBytes() {
        for (int n = 1; n <= 8; n++) {
            LakeSwimmers x = new LakeSwimmers();
            int fed = 0;
            while (fed + n <= 50) {
                fed += n;
                Due.due("feed " + n, x.feed(-1L, n), fed);
            }
            Due.due("feed " + n + " over 50", x.feed(-1L, n), Due.FULL);
            Due.due("it stays", x.count(7), fed);
            for (int more = 8; more > 50 - fed; more--) {
                Due.due("feed " + more + " over 50", x.feed(-1L, more), Due.FULL);
            }
            if (fed < 50) {
                Due.due("feed up to 50", x.feed(-1L, 50 - fed), 50);
            }
            Due.due("one more", x.feed(-1L, 1), Due.FULL);
            Due.due("count(7)", x.count(7), 50);
        }
    }

    /** What was refused is not there: the tape that was full reads as it was. */
    private static void fullTape() {
        LakeSwimmers x = new LakeSwimmers();
        Due.feed(x, "0000+0000+0000+0000+0000+0000+0000+0000+0000+0007");
        Due.due("two over", x.feed(0x3939L, 2), Due.FULL);
        Due.due("the 50th", x.feed('+', 1), 50);
        Due.due("one over", x.feed('9', 1), Due.FULL);
        Due.due("too early at 50", x.text(0), -60);
        Due.due("it is empty", x.count(7), 0);
        Due.feed(x, "0000+0000+0000+0000+0000+0000+0000+0000+0000+0007");
        Due.due("eight over", x.feed(-1L, 8), Due.FULL);
        Due.due("BEYOND ahead of FULL", x.feed(-1L, 9), Due.BEYOND);
        Due.due("49 bytes", x.text(0), 1);
        Due.due("as they were", x.law(0, 0, 0, 0), 7);
        Due.feed(x, "(((((c)))))*(((((w)))))+(((((l)))))-!!!!!0+!!!!!!");
        Due.due("49 bytes with a fault near the end", x.text(0), -10 - 48);
        Due.feed(x, "(((((c)))))*(((((w)))))+(((((l)))))-!!!!!0+!!!!!12");
        Due.due("50 bytes", x.text(0), 1);
        Due.due("of them", x.law(0, 2, 3, 4), 2 * 3 + 4 - 1 + 0);
    }

    /** "FAULT: .. how many there are, if it ends too early": none here */
    private static void emptyTape() {
        LakeSwimmers x = new LakeSwimmers();
        for (int use = 0; use < 2; use++) {
            Due.due("text(" + use + ") of no bytes", x.text(use), -10);
            Due.due("no TEXT then", x.law(use, 12, 0, 0), use == 0 ? 12 : 1);
        }
        Due.read(x, 0, "7");
        Due.due("text(0) of no bytes, with one ahead", x.text(0), -10);
        Due.due("which stays", x.law(0, 12, 0, 0), 7);
        Due.due("no ERROR", x.told(1) + x.told(2) + x.told(3) + x.told(4) + x.told(5), 0);
    }

    /** "THE TAPE, which is empty then"; "BEYOND (THE TAPE stays)"; "the one ahead stays; THE TAPE is empty, too" */
    private static void textKeepsOrEmpties() {
        int[] beyond = {-1, 2, LEAST, MOST};
        for (int use : beyond) {
            LakeSwimmers x = new LakeSwimmers();
            Due.feed(x, "w*7");
            Due.due("text(" + use + ")", x.text(use), Due.BEYOND);
            Due.due("THE TAPE stays", x.count(7), 3);
            Due.due("text(0)", x.text(0), 1);
            Due.due("THE TAPE is empty", x.count(7), 0);
            Due.due("as it was", x.law(0, 1, 2, 3), 14);
            Due.feed(x, "w*7*");
            Due.due("a FAULT", x.text(0), -14);
            Due.due("THE TAPE is empty, too", x.count(7), 0);
            Due.due("the one ahead stays", x.law(0, 1, 2, 3), 14);
            Due.due("in place of it", Due.read(x, 0, "l"), 1);
            Due.due("the new one", x.law(0, 1, 2, 3), 3);
        }
    }

    // ---- TEXTS

    /** "a NUMBER of 1 to 4 digits" */
    private static void digits() {
        String[] numbers = {"0", "9", "00", "10", "99", "000", "100", "999", "0000", "1000", "9999"};
        for (String n : numbers) {
            works("c=" + n, Integer.parseInt(n), 0, 0, 1);
            works("c=" + n, Integer.parseInt(n) + 1, 0, 0, 0);
            works(n + "=c", Integer.parseInt(n) - 1, 0, 0, 0);
        }
        fault("00000", 4);
        fault("99999", 4);
        fault("c+12345", 6);
        fault("(12345)", 5);
        fault("12345678", 4);
        fault("1234c", 4);
        fault("1c", 1);
        fault("1(c)", 1);
        fault("c1", 1);
        fault("(c)1", 3);
        sound("9999+9999");
    }

    /** "At most 5 of ! and ( are open at once": a ! as long as what it stands ahead of */
    private static void fiveOpen() {
        for (int mask = 0; mask < 32; mask++) {
            StringBuilder open = new StringBuilder();
            StringBuilder end = new StringBuilder();
            int nots = 0;
            for (int i = 0; i < 5; i++) {
                boolean isNot = (mask >> i & 1) != 0;
                open.append(isNot ? '!' : '(');
                end.append(isNot ? "" : ")");
                nots += isNot ? 1 : 0;
            }
            // What ( encloses is held as it is; each ! makes it 0 or 1.
            works(open + "0" + end, 0, 0, 0, nots % 2);
            works(open + "c" + end + "+1", 1, 0, 0, nots % 2 == 0 ? 2 : 1);
            fault(open + "!0" + end, 5);
            fault(open + "(0)" + end, 5);
            fault(open.toString(), 5);
            // None is open behind them: as many again.
            sound(open + "1" + end + "+" + open + "1" + end);
        }
        sound("!!!(c+!c+(w)+!l)");
        fault("!!!(c+!c+(w)+!!l)", 14);
        fault("!!!!(c+!c)", 7);
        fault("((((c+(w+!l)))))", 9);
        sound("((((c+(w)+!l))))");
        sound("!c+!!c+!!!c+!!!!c+!!!!!c");
        sound("(!(!(c)|!(w))&!l)");
    }

    /** "No blanks"; a NAME of the other USE, a capital letter, any other byte is a FAULT */
    private static void everyByte() {
        for (int use = 0; use < 2; use++) {
            String names = use == 0 ? "cwl" : "byw";
            String parts = names + "0123456789";
            for (int b = 0; b < 256; b++) {
                boolean isPart = parts.indexOf(b) >= 0;
                boolean opens = b == '!' || b == '(';
                LakeSwimmers x = new LakeSwimmers();
                x.feed(b, 1);
                Due.due("byte " + b + " alone", x.text(use), isPart ? 1 : opens ? -11 : -10);
                boolean joins = "|&<=>+-*/%".indexOf(b) >= 0;
                x.feed('w' | b << 8, 2);
                Due.due("byte " + b + " behind w", x.text(use), joins ? -12 : -11);
                x.feed('w' | b << 8 | 'w' << 16, 3);
                Due.due("byte " + b + " between w", x.text(use), joins ? 1 : -11);
                x.feed('7' | b << 8, 2);
                boolean isDigit = b >= '0' && b <= '9';
                Due.due("byte " + b + " behind 7", x.text(use), isDigit ? 1 : joins ? -12 : -11);
                x.feed('(' | 'w' << 8 | b << 16, 3);
                Due.due("byte " + b + " behind (w", x.text(use), b == ')' ? 1 : joins ? -13 : -12);
            }
        }
    }

    /** "how many there are, if it ends too early": from 0 to 50 */
    private static void tooEarly() {
        String full = "(c)+w*l-c/w%l&c<w|l=w&c>w|!c+!w-!l+1-2-3-4*5/6%7+8";
        Due.due("its bytes", full.length(), 50);
        sound(full);
        for (int n = 0; n <= 50; n++) {
            String cut = full.substring(0, n);
            boolean isText = n > 2 && "cwl)12345678".indexOf(cut.charAt(n - 1)) >= 0;
            Due.due("the first " + n + " of " + full, Due.read(new LakeSwimmers(), 0, cut), isText ? 1 : -10 - n);
        }
        fault("(((((0)))))+(((((0)))))+(((((0)))))+(((((0)))))+((", 50);
        fault("!!!!!", 5);
        fault("(((((0))))", 10);
        sound("(((((0)))))");
        fault("(((((0))))))", 11);
    }

    /** "B: S, or S < S, S = S, S > S": one comparison, but one more in each A, B and ( */
    private static void oneComparison() {
        String signs = "<=>";
        for (int i = 0; i < 3; i++) {
            for (int j = 0; j < 3; j++) {
                char a = signs.charAt(i);
                char b = signs.charAt(j);
                fault("c" + a + "w" + b + "l", 3);
                fault("c" + a + b + "l", 2);
                fault("(c" + a + "w" + b + "l)", 4);
                sound("(c" + a + "w)" + b + "l");
                sound("c" + a + "(w" + b + "l)");
                sound("c" + a + "w&c" + b + "w|c" + a + "l");
                fault("c" + a + "!w" + b + "l", 4);
                fault("c" + a + "(w)" + b + "l", 5);
            }
        }
    }

    /** "| & < = > ! are 1 or 0, what is not 0 being true": below 0, and at the far ends, too */
    private static void truth() {
        int[] given = {LEAST, -256, -2, -1, 0, 1, 2, 256, 65536, MOST};
        for (int a : given) {
            works("!c", a, 0, 0, a == 0 ? 1 : 0);
            works("!!c", a, 0, 0, a == 0 ? 0 : 1);
            for (int b : given) {
                works("c|w", a, b, 0, a == 0 && b == 0 ? 0 : 1);
                works("c&w", a, b, 0, a == 0 || b == 0 ? 0 : 1);
                works("c<w", a, b, 0, a < b ? 1 : 0);
                works("c=w", a, b, 0, a == b ? 1 : 0);
                works("c>w", a, b, 0, a > b ? 1 : 0);
            }
        }
    }

    /** "Ints that wrap" */
    private static void wraps() {
        works("c+w=l", MOST, 1, LEAST, 1);
        works("c+w=l", LEAST, LEAST, 0, 1);
        works("c-w=l", LEAST, 1, MOST, 1);
        works("c-w=l", 0, LEAST, LEAST, 1);
        works("c*w=l", 65536, 65536, 0, 1);
        works("c*w=l", MOST, 2, -2, 1);
        works("c*w=l", LEAST, -1, LEAST, 1);
        works("c*w=l", 46341, 46341, 46341 * 46341, 1);
        works("9999*9999*9999*9999=c", 9999 * 9999 * 9999 * 9999, 0, 0, 1);
        works("c*w-l", 46341, 46341, 46341 * 46341 - 7, 7);
    }

    /** "/ cut, % the rest that it leaves, both by 0 are 0" */
    private static void cuts() {
        int[] given = {LEAST, LEAST + 1, -100, -7, -6, -1, 0, 1, 6, 7, 100, MOST};
        int[] by = {LEAST, -7, -2, -1, 0, 1, 2, 7, MOST};
        for (int a : given) {
            for (int b : by) {
                long quotient = b == 0 ? 0 : (long) a / b;
                long rest = b == 0 ? 0 : (long) a % b;
                works("c/w=l", a, b, (int) quotient, 1);
                works("c%w=l", a, b, (int) rest, 1);
            }
        }
        works("c/0", 7, 0, 0, 0);
        works("c%0", 7, 0, 0, 0);
        works("5+c/w", 7, 0, 0, 5);
        works("c/w/l", 100, 3, 0, 0);
    }

    // ---- USES

    /** "held within -30 to 30" */
    private static void flowsHeld() {
        int[] given = {LEAST, -1000, -32, -31, -30, -29, -1, 0, 1, 29, 30, 31, 32, 1000, MOST};
        for (int v : given) {
            int due = Math.max(-30, Math.min(30, v));
            works("c", v, 0, 0, due);
            works("w", 0, v, 0, due);
            works("l", 0, 0, v, due);
            Due.due("without a TEXT, " + v, new LakeSwimmers().law(0, v, 0, 9), due);
        }
        LakeSwimmers x = new LakeSwimmers();
        x.current(0, 9);
        x.current(1, -9);
        int[] times = {3, 4};
        for (int n : times) {
            Due.read(x, 0, "c*" + n);
            Due.due("flow(0) by " + n, x.flow(0), n == 3 ? 27 : 30);
            Due.due("flow(1) by " + n, x.flow(1), n == 3 ? -27 : -30);
        }
    }

    /** "held within 0 to 100" */
    private static void catchHeld() {
        int[] given = {LEAST, -100, -1, 0, 1, 50, 99, 100, 101, 1000, MOST};
        String[] names = {"b", "y", "w"};
        for (int v : given) {
            int due = Math.max(0, Math.min(100, v));
            for (int i = 0; i < 3; i++) {
                LakeSwimmers x = new LakeSwimmers();
                Due.due("sound", Due.read(x, 1, names[i]), 1);
                Due.due(names[i] + " of " + v, x.law(1, i == 0 ? v : 7, i == 1 ? v : 7, i == 2 ? v : 7), due);
            }
        }
    }

    /** "without a TEXT c+2*w"; "without a TEXT b/12" */
    private static void withoutText() {
        LakeSwimmers x = new LakeSwimmers();
        int[][] flows = {{9, 3, 15}, {-9, -3, -15}, {24, 3, 30}, {25, 3, 30}, {-24, -3, -30}, {-25, -3, -30},
            {0, 15, 30}, {0, 16, 30}, {0, -15, -30}, {0, -16, -30}, {-30, 1, -28}};
        for (int[] f : flows) {
            for (int lane = -1; lane < 7; lane++) {
                Due.due("c+2*w of " + f[0] + ", " + f[1], x.law(0, f[0], f[1], lane), f[2]);
            }
        }
        int[][] caught = {{LEAST, 0}, {-12, 0}, {-11, 0}, {-1, 0}, {0, 0}, {11, 0}, {12, 1}, {23, 1}, {24, 2},
            {1199, 99}, {1200, 100}, {1211, 100}, {1212, 100}, {MOST, 100}};
        for (int[] c : caught) {
            Due.due("b/12 of " + c[0], x.law(1, c[0], 9999, 3), c[1]);
        }
    }

    /** "THE TAPE .. is the TEXT of a USE (0, 1), in place of one ahead": that of the other one stays */
    private static void usesApart() {
        LakeSwimmers x = new LakeSwimmers();
        Due.read(x, 0, "7");
        Due.due("CATCH is without a TEXT", x.law(1, 120, 0, 0), 10);
        Due.read(x, 1, "8");
        Due.due("FLOWS", x.law(0, 0, 0, 0), 7);
        Due.due("CATCH", x.law(1, 0, 0, 0), 8);
        Due.due("a FAULT of FLOWS", Due.read(x, 0, "b"), -10);
        Due.due("FLOWS", x.law(0, 0, 0, 0), 7);
        Due.due("CATCH", x.law(1, 0, 0, 0), 8);
        Due.due("a FAULT of CATCH", Due.read(x, 1, "l"), -10);
        Due.due("CATCH", x.law(1, 0, 0, 0), 8);
        Due.read(x, 0, "9-9");
        Due.due("a TEXT that gives 0", x.law(0, 9, 9, 9), 0);
    }
}
