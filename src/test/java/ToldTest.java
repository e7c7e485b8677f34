/** Promises 27 to 40: draws, voices, sheets, images, what is told. */
public final class ToldTest {
    public static void main(String[] args) {
        seed();
        voice();
        trace();
        sheet();
        put();
        move();
        years();
        judge();
        image();
        imageHolds();
        tell();
        check();
        count();
        told();
        Due.finish("ToldTest");
    }

    private static LakeSwimmers two() {
        LakeSwimmers x = new LakeSwimmers();
        x.swimmer(0, 0);
        x.swimmer(0, 1);
        return x;
    }

    private static void seed() {
        LakeSwimmers x = two();
        Due.due("seed(-5)", x.seed(-5), 1);
        Due.due("seed(least)", x.seed(Integer.MIN_VALUE), -5);
        Due.due("seed(5)", x.seed(5), Integer.MIN_VALUE);
        x.loose(0, 1);
        Due.due("seed behind a draw", x.seed(0), 1222621274);
        Due.due("no ERROR is told", x.told(1) + x.told(2) + x.told(3) + x.told(4) + x.told(5), 0);
    }

    private static void voice() {
        // Number 3, m 5: what each kind swims, breathes, tires and tells with x = 4.
        int[][] due = {
            {7, 14, -1, 14 ^ -1},
            {7, 14 - (1 - 5), -1, 18 ^ -1},
            {21, 42, -1, 42 ^ -1},
            {7, 14, 1, 14 ^ 1},
            {7, 16 - (1 - 5), -1, 20 ^ -1},
            {21, 42, -1, (42 ^ -1) - 15},
            {7, 14, 1 ^ 3, 14 - (14 ^ 2)}};
        String[][] bodies = {
            {"10", "11 10", "12", "13 11 10 12"},
            {"10", "20 11 10 12", "12", "13 20 11 10 12 12"},
            {"30 10", "11 30 10", "12", "13 11 30 10 12"},
            {"10", "11 10", "40 12", "13 11 10 40 12"},
            {"10", "50 20 11 10 12", "12", "13 50 20 11 10 12 12"},
            {"30 10", "11 30 10", "12", "60 13 11 30 10 12 30 10"},
            {"10", "11 10", "70 40 12", "71 11 10 13 11 10 70 40 12"}};
        LakeSwimmers x = new LakeSwimmers();
        for (int i = 0; i < 4; i++) {
            x.swimmer(0, 0);
        }
        for (int kind = 0; kind < 7; kind++) {
            x.become(3, 10 * kind + 5);
            for (int act = 0; act < 4; act++) {
                Due.due("kind " + kind + " act " + act, x.voice(3, act, 4), due[kind][act]);
                String[] began = bodies[kind][act].split(" ");
                Due.due("bodies of kind " + kind + " act " + act, x.count(9), began.length);
                for (int i = 0; i < began.length; i++) {
                    Due.due("body " + i + " of kind " + kind + " act " + act, x.trace(i), Integer.parseInt(began[i]));
                }
            }
        }
        Due.due("x goes round", x.voice(3, 0, Integer.MAX_VALUE), Integer.MIN_VALUE + 2);
        Due.due("a number below LOW is no ERROR", x.told(1), 0);
        Due.due("act 4", x.voice(3, 4, 0), Due.BEYOND);
        Due.due("act -1", x.voice(3, -1, 0), Due.BEYOND);
        Due.due("nobody", x.voice(4, 0, 0), Due.BEYOND);
    }

    private static void trace() {
        LakeSwimmers x = two();
        Due.due("none yet", x.trace(0), Due.NONE);
        x.voice(0, 3, 1);
        Due.due("the last", x.trace(3), 12);
        Due.due("behind the last", x.trace(4), Due.NONE);
        Due.due("ahead of the first", x.trace(-1), Due.NONE);
        x.voice(9, 0, 1);
        Due.due("an ERROR changes nothing", x.count(9), 4);
        x.voice(1, 0, 1);
        Due.due("the latest", x.trace(0), 10);
        Due.due("the latest alone", x.trace(1), Due.NONE);
        Due.due("far off", x.trace(Integer.MAX_VALUE), Due.NONE);
    }

    private static void sheet() {
        LakeSwimmers x = new LakeSwimmers();
        Due.due("sheet(0, 8, 40)", x.sheet(0, 8, 40), 1);
        Due.due("sheet(3, 16, 0)", x.sheet(3, 16, 0), 1);
        Due.due("sheet(1, 32, 1)", x.sheet(1, 32, 1), 1);
        Due.due("no such sheet", x.sheet(4, 8, 1), Due.BEYOND);
        Due.due("no such sheet", x.sheet(-1, 8, 1), Due.BEYOND);
        Due.due("no such bits", x.sheet(0, 9, 1), Due.BEYOND);
        Due.due("no such bits", x.sheet(0, 64, 1), Due.BEYOND);
        Due.due("no such bits", x.sheet(0, -8, 1), Due.BEYOND);
        Due.due("41 numbers", x.sheet(0, 8, 41), Due.BEYOND);
        Due.due("-1 numbers", x.sheet(0, 8, -1), Due.STATE);
        Due.due("least numbers", x.sheet(0, 32, Integer.MIN_VALUE), Due.STATE);
        Due.due("BEYOND ahead of STATE", x.sheet(4, 8, -1), Due.BEYOND);
        Due.due("BEYOND of bits ahead of STATE", x.sheet(0, 7, -1), Due.BEYOND);
        Due.due("the last number", x.put(0, 39, 1), 1);
        Due.due("an empty sheet isn't missing", x.put(3, 0, 1), Due.BEYOND);
        Due.due("missing, whatever n", x.sheet(0, 0, -7), 1);
        Due.due("missing again", x.sheet(0, 0, 99), 1);
        Due.due("it is missing", x.put(0, 0, 1), Due.NONE);
        x.swimmer(0, 0);
        x.sheet(0, 8, 2);
        x.put(0, 1, 30);
        Due.due("as it was put", x.judge(0, 0), 2);
        x.sheet(0, 8, 2);
        Due.due("all 0 anew", x.judge(0, 0), 1);
        Due.due("sheets are apart", x.put(1, 1, 0), Due.BEYOND);
    }

    private static void put() {
        LakeSwimmers x = new LakeSwimmers();
        x.swimmer(0, 0);
        Due.due("no such sheet", x.put(4, 0, 0), Due.BEYOND);
        Due.due("no such sheet", x.put(-1, 0, 0), Due.BEYOND);
        Due.due("missing", x.put(0, 99, 0), Due.NONE);
        x.sheet(0, 8, 3);
        Due.due("no such number", x.put(0, 3, 0), Due.BEYOND);
        Due.due("no such number", x.put(0, -1, 0), Due.BEYOND);
        int[] bits = {8, 16, 32};
        for (int b : bits) {
            x.sheet(0, b, 3);
            x.put(0, 1, 30);
            Due.due("put(0, 2, 60)", x.put(0, 2, 60), 1);
            Due.due("60 yards", x.judge(0, 0), 3);
            x.put(0, 2, 60 + 65536 * 3);
            Due.due("the lowest bits of " + b, x.judge(0, 0), b == 32 ? 2 : 3);
            x.put(0, 2, 60 + 256);
            Due.due("the lowest 8 bits of " + b, x.judge(0, 0), b == 8 ? 3 : 2);
        }
        x.sheet(0, 8, 6);
        int[] places = {0, 30, 60, 90, 120, 149};
        for (int i = 0; i < 6; i++) {
            x.put(0, i, places[i]);
        }
        Due.due("149 in 8 bits is below 0", x.judge(0, 0), 5);
    }

    private static void move() {
        LakeSwimmers x = new LakeSwimmers();
        x.swimmer(30, 0);
        x.sheet(0, 16, 6);
        x.sheet(1, 16, 4);
        x.sheet(2, 32, 4);
        for (int i = 0; i < 6; i++) {
            x.put(0, i, 5 * i);
        }
        Due.due("move 4", x.move(0, 0, 1, 0, 4), 4);
        Due.due("all 4 came", x.judge(1, 0), 4);
        x.put(0, 5, 99);
        Due.due("on the same, up", x.move(0, 0, 0, 1, 5), 5);
        Due.due("as they all were", x.move(0, 1, 0, 0, 5), 5);
        Due.due("and back down", x.judge(0, 0), 5);
        Due.due("none", x.move(0, 6, 1, 4, 0), 0);
        Due.due("no such sheet", x.move(4, 0, 0, 0, 0), Due.BEYOND);
        Due.due("no such sheet", x.move(0, 0, -1, 0, 0), Due.BEYOND);
        Due.due("one is missing", x.move(0, 0, 3, 0, 1), Due.NONE);
        Due.due("one is missing", x.move(3, 0, 2, 0, -1), Due.NONE);
        Due.due("unlike bits", x.move(0, 0, 2, 0, -1), Due.KIND);
        Due.due("n below 0", x.move(0, 0, 1, 0, -1), Due.BEYOND);
        Due.due("i below 0", x.move(0, -1, 1, 0, 1), Due.BEYOND);
        Due.due("j below 0", x.move(0, 0, 1, -1, 1), Due.BEYOND);
        Due.due("not from there", x.move(0, 3, 1, 0, 4), Due.BEYOND);
        Due.due("not there", x.move(0, 0, 1, 1, 4), Due.BEYOND);
        Due.due("none, but not there", x.move(0, 7, 1, 0, 0), Due.BEYOND);
        int most = Integer.MAX_VALUE;
        Due.due("far off", x.move(0, most, 1, most, most), Due.BEYOND);
        Due.due("far off", x.move(0, 1, 1, 1, most), Due.BEYOND);
        Due.due("nothing was changed", x.judge(1, 0), 4);
    }

    private static void years() {
        LakeSwimmers x = two();
        x.swimmer(0, 0);
        Due.due("no such sheet", x.years(4), Due.BEYOND);
        Due.due("no such sheet", x.years(-1), Due.BEYOND);
        Due.due("missing", x.years(0), Due.NONE);
        x.sheet(0, 8, 0);
        Due.due("empty", x.years(0), 0);
        x.sheet(0, 32, 7);
        int[] twos = {0, 1, 1, 2, 1, 0, 1};
        for (int i = 0; i < twos.length; i++) {
            x.put(0, i, twos[i]);
        }
        Due.due("three, and one that isn't whole", x.years(0), 3);
        Due.due("YEAR", x.count(0), 3);
        Due.due("MET of 0", x.ofSwimmer(0, 4), 2);
        Due.due("MET of 1", x.ofSwimmer(1, 4), 3);
        Due.due("FISH", x.count(3), 150);
        x.put(0, 3, 1);
        Due.due("up to one twice", x.years(0), 1);
        x.put(0, 1, 2);
        Due.due("one side", x.years(0), 0);
        x.put(0, 1, -1);
        Due.due("nobody", x.years(0), 0);
        Due.due("no ERROR then", x.told(1), 2);
        Due.due("YEAR then", x.count(0), 4);
    }

    private static void judge() {
        LakeSwimmers x = two();
        Due.due("no such sheet", x.judge(4, 0), Due.BEYOND);
        Due.due("no such sheet", x.judge(-1, 0), Due.BEYOND);
        Due.due("nobody, ahead of missing", x.judge(0, 2), Due.BEYOND);
        Due.due("missing", x.judge(0, 0), Due.NONE);
        x.sheet(0, 16, 0);
        Due.due("as many as there are", x.judge(0, 0), 0);
        x.sheet(0, 16, 40);
        int at = 1200;
        for (int i = 0; i < 40; i++) {
            x.put(0, i, at);
            at = Math.max(0, at - 30 + i / 4);
        }
        Due.due("all of them", x.judge(0, 1), 40);
        Due.due("not of the other one", x.judge(0, 0), 0);
        x.put(0, 39, 1);
        Due.due("the last one", x.judge(0, 1), 39);
        x.put(0, 20, 1);
        Due.due("the first of two", x.judge(0, 1), 20);
        x.current(0, 1);
        Due.due("the lake is looked at", x.judge(0, 1), 1);
    }

    private static void image() {
        LakeSwimmers x = two();
        Due.due("none yet", x.restore(), Due.NONE);
        Due.due("the first", x.image(), 1);
        x.year(0, 1);
        Due.due("restore", x.restore(), 0);
        Due.due("YEAR", x.count(0), 0);
        x.year(0, 1);
        x.year(0, 1);
        Due.due("the second, in place of it", x.image(), 2);
        x.year(0, 1);
        Due.due("restore", x.restore(), 2);
        Due.due("it stays", x.restore(), 2);
        Due.due("how often isn't kept", x.image(), 3);
        Due.due("told isn't kept", x.told(2), 1);
    }

    private static void imageHolds() {
        LakeSwimmers x = two();
        x.current(3, 3);
        x.set(0, 2);
        x.set(1, 20);
        Due.read(x, 0, "c");
        Due.read(x, 1, "7");
        x.seed(77);
        x.plan(0, 2, 3);
        x.train(1, 12);
        x.year(0, 1);
        x.set(2, 111);
        Due.feed(x, "l+");
        x.tell(111);
        x.tell(600);
        x.sheet(0, 8, 3);
        x.voice(0, 0, 0);
        x.image();
        changeAll(x);
        Due.due("restore", x.restore(), 1);
        int[] counts = {1, 2, 111, 7, 93, 2, 20, 2, 2, 4, 77};
        for (int i = 0; i < counts.length; i++) {
            Due.due("kept count(" + i + ")", x.count(i), counts[i]);
        }
        int[] ofZero = {0, 0, 0, 10, 1, 0, 0, 3, 0};
        for (int i = 0; i < ofZero.length; i++) {
            Due.due("kept ofSwimmer(0, " + i + ")", x.ofSwimmer(0, i), ofZero[i]);
        }
        Due.due("kept skill of 1", x.ofSwimmer(1, 3), 12);
        Due.due("kept flow(3)", x.flow(3), 3);
        Due.due("kept CATCH", x.law(1, 600, 0, 0), 7);
        Due.feedMore(x, "w", 3);
        Due.due("kept tape", x.text(0), 1);
        Due.due("kept tape, read", x.law(0, 0, 4, 5), 9);
        Due.due("no TEXT is kept, too", noTextIsKept(), 10);
        Due.due("a sheet isn't kept", x.put(0, 0, 1), Due.NONE);
        Due.due("a swimmer anew", x.swimmer(5, 1), 2);
        int[] ofTwo = {0, 5, 1, 10, 0, 0, 0, 0, 0};
        for (int i = 0; i < ofTwo.length; i++) {
            Due.due("anew ofSwimmer(2, " + i + ")", x.ofSwimmer(2, i), ofTwo[i]);
        }
        Due.planAll(x, 0, 5);
        Due.due("kept numbers that wait", x.check(0, 1), 2);
        x.tell(1);
        x.tell(1);
        x.restore();
        Due.planAll(x, 0, 5);
        Due.due("kept as they were", x.check(0, 1), 2);
        x.restore();
        Due.due("restore once more", x.count(7), 2);
    }

    private static int noTextIsKept() {
        LakeSwimmers x = new LakeSwimmers();
        x.image();
        Due.read(x, 0, "c");
        x.restore();
        return x.law(0, 4, 3, 0);
    }

    private static void changeAll(LakeSwimmers x) {
        x.current(3, -3);
        x.set(0, -2);
        x.set(1, 30);
        x.text(0);
        Due.read(x, 0, "c+l");
        Due.read(x, 1, "50");
        x.seed(78);
        x.plan(0, 2, 4);
        x.train(1, 13);
        x.become(0, 55);
        x.year(0, 1);
        x.set(2, 112);
        Due.feed(x, "c+w+l");
        x.tell(5);
        x.swimmer(60, 0);
        x.train(2, 1);
        x.plan(2, 1, 1);
        x.year(2, 1);
        x.sheet(0, 0, 0);
        x.voice(1, 3, 0);
    }

    private static void tell() {
        LakeSwimmers x = two();
        for (int i = 1; i <= 20; i++) {
            Due.due("tell " + i, x.tell(600), i);
        }
        Due.due("20 wait", x.tell(5), Due.FULL);
        Due.due("count(8)", x.count(8), 20);
        Due.due("all are so", x.check(0, 1), 0);
        Due.due("none wait", x.count(8), 0);
        Due.due("from 1 on again", x.tell(7), 1);
    }

    private static void check() {
        LakeSwimmers x = two();
        Due.due("none that wait", x.check(0, 1), 0);
        x.current(0, 9);
        x.tell(798);
        x.tell(798);
        x.tell(799);
        x.tell(800);
        Due.due("the first that isn't so", x.check(0, 1), 3);
        Due.due("none wait", x.count(8), 0);
        Due.due("YEAR stays", x.count(0), 0);
        Due.due("BORDER stays", x.count(2), 600);
        Due.due("FISH stay", x.count(3), 0);
        Due.due("MET stays", x.ofSwimmer(0, 4), 0);
        x.tell(600);
        Due.due("the border to come", x.check(1, 0), 1);
        Due.planAll(x, 0, 1);
        x.tell(600);
        x.tell(600);
        Due.due("who miss each other", x.check(1, 0), 0);
        x.tell(600);
        Due.due("one twice", x.check(0, 0), Due.BEYOND);
        Due.due("none wait then, too", x.count(8), 0);
        x.tell(600);
        Due.due("nobody", x.check(0, 2), Due.BEYOND);
        Due.due("none wait then, too", x.count(8), 0);
    }

    private static void count() {
        LakeSwimmers x = two();
        x.current(0, 9);
        x.year(0, 1);
        x.set(0, 2);
        x.set(1, 33);
        x.feed(1, 3);
        x.tell(1);
        x.tell(1);
        x.voice(0, 3, 0);
        x.seed(-9);
        int[] counts = {1, 2, 798, 66, 34, 2, 33, 3, 2, 4, -9};
        for (int i = 0; i < counts.length; i++) {
            Due.due("count(" + i + ")", x.count(i), counts[i]);
        }
        Due.due("count(11)", x.count(11), Due.BEYOND);
        Due.due("count(-1)", x.count(-1), Due.BEYOND);
        x.seed(Due.LOW - 1);
        Due.due("any number", x.count(10), Due.LOW - 1);
        Due.due("which is no ERROR", x.told(1), 2);
    }

    private static void told() {
        LakeSwimmers x = two();
        for (int k = 1; k <= 5; k++) {
            Due.due("told(" + k + ")", x.told(k), 0);
        }
        x.flow(9);
        x.restore();
        x.restore();
        x.sheet(0, 8, -1);
        for (int i = 0; i < 7; i++) {
            x.swimmer(0, 0);
        }
        x.as(0, 1);
        Due.due("BEYOND", x.told(1), 1);
        Due.due("NONE", x.told(2), 2);
        Due.due("STATE", x.told(3), 1);
        Due.due("FULL", x.told(4), 1);
        Due.due("KIND", x.told(5), 1);
        Due.due("told(0)", x.told(0), Due.BEYOND);
        Due.due("told(6)", x.told(6), Due.BEYOND);
        Due.due("counted, too", x.told(1), 3);
        x.text(0);
        Due.due("a FAULT is no ERROR", x.told(1), 3);
    }
}
