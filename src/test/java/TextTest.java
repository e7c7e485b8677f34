/** Promises 12 to 14: texts. */
public final class TextTest {
    public static void main(String[] args) {
        feed();
        text();
        faults();
        law();
        values();
        Due.finish("TextTest");
    }

    private static void feed() {
        LakeSwimmers x = new LakeSwimmers();
        Due.due("feed(.., 0)", x.feed('c', 0), Due.BEYOND);
        Due.due("feed(.., 9)", x.feed('c', 9), Due.BEYOND);
        Due.due("feed(.., -1)", x.feed('c', -1), Due.BEYOND);
        for (int i = 1; i <= 6; i++) {
            Due.due("feed 8", x.feed(-1L, 8), 8 * i);
        }
        Due.due("feed over 50", x.feed(0, 3), Due.FULL);
        Due.due("BEYOND ahead of FULL", x.feed(0, 9), Due.BEYOND);
        Due.due("count(7)", x.count(7), 48);
        Due.due("feed up to 50", x.feed(0, 2), 50);
        Due.due("feed over 50 by 1", x.feed(0, 1), Due.FULL);
        Due.due("text of bytes 255", x.text(0), -10);
        Due.due("count(7) behind text", x.count(7), 0);
        // "9-c" and, above it, what isn't asked for.
        Due.due("feed(word, 3)", x.feed(0x2A2A2A2A_00632D39L, 3), 3);
        Due.due("text", x.text(0), 1);
        Due.due("law", x.law(0, 4, 0, 0), 5);
        Due.due("feed \"c+10000-\"", x.feed(0x2D39393939_2B2B63L & 0xFFFFFFL, 3), 3);
        Due.due("two signs", x.text(0), -12);
    }

    private static void text() {
        LakeSwimmers x = new LakeSwimmers();
        Due.due("empty", x.text(0), -10);
        Due.due("w", Due.read(x, 1, "w"), 1);
        Due.feed(x, "c");
        Due.due("text(2)", x.text(2), Due.BEYOND);
        Due.due("text(-1)", x.text(-1), Due.BEYOND);
        Due.due("count(7) stays", x.count(7), 1);
        Due.due("text(0)", x.text(0), 1);
        Due.due("count(7) is 0", x.count(7), 0);
        Due.due("law(0)", x.law(0, 7, 1, 1), 7);
        Due.due("a fault", Due.read(x, 0, "c+c+"), -14);
        Due.due("count(7) is 0 behind a fault", x.count(7), 0);
        Due.due("the one ahead stays", x.law(0, 7, 1, 1), 7);
        Due.due("in place of one ahead", Due.read(x, 0, "c+1"), 1);
        Due.due("law(0) then", x.law(0, 7, 1, 1), 8);
        Due.due("law(1) has its own", x.law(1, 7, 1, 5), 5);
        Due.due("no ERROR told but two", x.told(1), 2);
        String longest = "1+1+1+1+1+1+1+1+1+1+1+1+1+1+1+1+1+1+1+1+1+1+1+1+1";
        Due.due("50 bytes", Due.read(x, 0, longest + "0"), 1);
        Due.due("50 bytes: law", x.law(0, 0, 0, 0), 30);
        Due.due("49 bytes", Due.read(x, 0, longest), 1);
        Due.due("49 bytes: law", x.law(0, 0, 0, 0), 25);
        Due.due("50 bytes, too early", Due.read(x, 0, longest + "-"), -60);
    }

    private static void faults() {
        String[] sound = {"0", "0007", "1234", "c<w", "(c<w)<l", "c<(w<l)", "c<w&l<c|c=w", "!!!!!c", "(((((c)))))",
            "!(!(!c))", "!c+!c+!c+!c+!c+!c", "(c)+(c)+(c)+(c)+(c)+(c)", "!(c|w)&(!l)", "c+w-l*c/w%l",
            "!1234", "(c)", "c>!c"};
        for (String t : sound) {
            Due.due("sound: " + t, Due.read(new LakeSwimmers(), 0, t), 1);
        }
        String[] early = {"c+", "(", "!", "c<", "(c", "(c+(w)", "c&", "c|", "(((((", "!!!!!", "12*", "c%", "(c<w"};
        for (String t : early) {
            Due.due("too early: " + t, Due.read(new LakeSwimmers(), 0, t), -10 - t.length());
        }
        // The FAULT stands behind the bar.
        String[] wrong = {"c~w", "1234~5", "c<w~<l", "c=w~>l", "(c<w~=l)", "c<w&l<c~<w", "!!!!!~!c", "(((((~(c",
            "!(!((~!c", "~b", "~y", "c+~b", "~)", "c~)", "(c)~)", "(~)", "~+c", "~-c", "c+~+c", "c~ +c", "~ c", "~C",
            "c~(", "c~!", "(c)~c", "(c)~1", "c~1", "1~c", "c<~=w", "c&~&w", "c|~|w", "!~)", "!~+", "c*~*w", "~.",
            "(12345)~", "c~#"};
        for (String t : wrong) {
            int place = t.indexOf('~');
            String bytes = t.substring(0, place) + t.substring(place + 1);
            if (t.equals("(12345)~")) {
                place = 5;
            }
            Due.due("fault: " + t, Due.read(new LakeSwimmers(), 0, bytes), -10 - place);
        }
        Due.due("b for CATCH", Due.read(new LakeSwimmers(), 1, "b+y+w"), 1);
        Due.due("c for CATCH", Due.read(new LakeSwimmers(), 1, "c"), -10);
        Due.due("l for CATCH", Due.read(new LakeSwimmers(), 1, "b-l"), -12);
        LakeSwimmers x = new LakeSwimmers();
        x.feed(0x63E3L, 2);
        Due.due("a byte above 127", x.text(0), -10);
        x.feed(0x0063L, 2);
        Due.due("a byte 0", x.text(0), -11);
    }

    private static void law() {
        LakeSwimmers x = new LakeSwimmers();
        Due.due("law(2)", x.law(2, 0, 0, 0), Due.BEYOND);
        Due.due("law(-1)", x.law(-1, 0, 0, 0), Due.BEYOND);
        Due.due("flows without a text", x.law(0, 5, 3, 9), 11);
        Due.due("flows held", x.law(0, 25, 3, 9), 30);
        Due.due("flows held below", x.law(0, -25, -3, 9), -30);
        Due.due("catch without a text", x.law(1, 1199, 9, 9), 99);
        Due.due("catch held", x.law(1, 1212, 9, 9), 100);
        Due.due("catch held below", x.law(1, -12, 9, 9), 0);
        Due.read(x, 0, "c-w*10-l*5");
        Due.due("names in order of flows", x.law(0, 27, 1, 2), 7);
        Due.read(x, 1, "b-y*10-w*5");
        Due.due("names in order of catch", x.law(1, 99, 2, 3), 64);
        Due.due("catch held below", x.law(1, 0, 2, 3), 0);
        Due.due("catch held above", x.law(1, 9999, 2, 3), 100);
    }

    private static void values() {
        value("7-2-1", 4);
        value("20/3/2", 3);
        value("2+3*4", 14);
        value("17%5*2", 4);
        value("2*17%5", 4);
        value("(2+3)*4", 20);
        value("5", 5);
        value("!5", 0);
        value("!0", 1);
        value("!!7", 1);
        value("!1+1", 1);
        value("!0*5", 5);
        value("!(0*5)", 1);
        value("1|0&0", 1);
        value("0&0|1", 1);
        value("(1|0)&0", 0);
        value("7|0", 1);
        value("7&9", 1);
        value("1&1", 1);
        value("0&7", 0);
        value("0|0", 0);
        value("7&0", 0);
        value("1<2+3", 1);
        value("3<3", 0);
        value("3>3", 0);
        value("3=3", 1);
        value("4>3", 1);
        value("3>4", 0);
        value("4=3", 0);
        value("(0-7)/2", -3);
        value("(0-7)%2", -1);
        value("7%(0-2)", 1);
        value("9/0", 0);
        value("9%0", 0);
        value("1&9/0", 0);
        value("0009", 9);
        value("3-c+w*l", 3 - 5 + 2 * 3);
        LakeSwimmers x = new LakeSwimmers();
        Due.read(x, 0, "c*c");
        Due.due("46341 squared wraps", x.law(0, 46341, 0, 0), -30);
        Due.due("65536 squared wraps", x.law(0, 65536, 0, 0), 0);
        Due.read(x, 0, "c/w");
        Due.due("least by -1", x.law(0, Integer.MIN_VALUE, -1, 0), -30);
        Due.due("cut", x.law(0, -29, 10, 0), -2);
        Due.read(x, 0, "c%w");
        Due.due("least by -1 leaves", x.law(0, Integer.MIN_VALUE, -1, 0), 0);
        Due.read(x, 0, "c+w<l");
        Due.due("sum wraps", x.law(0, Integer.MAX_VALUE, 1, 0), 1);
        Due.read(x, 0, "w<c");
        Due.due("far apart", x.law(0, Integer.MAX_VALUE, Integer.MIN_VALUE, 0), 1);
    }

    private static void value(String text, int due) {
        LakeSwimmers x = new LakeSwimmers();
        Due.due(text, Due.read(x, 0, text), 1);
        Due.due("value of " + text, x.law(0, 5, 2, 3), due);
    }
}
