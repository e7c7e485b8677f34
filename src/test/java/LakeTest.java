/** Promises 1 to 11: the lake, swimmers. */
public final class LakeTest {
    public static void main(String[] args) {
        newObject();
        current();
        set();
        flow();
        swimmer();
        ofSwimmer();
        train();
        plan();
        become();
        as();
        pace();
        Due.finish("LakeTest");
    }

    private static void newObject() {
        LakeSwimmers x = new LakeSwimmers();
        int[] counts = {0, 0, 600, 0, 0, 0, 10, 0, 0, 0, 1};
        for (int i = 0; i < counts.length; i++) {
            Due.due("new: count(" + i + ")", x.count(i), counts[i]);
        }
        for (int lane = 0; lane < 6; lane++) {
            Due.due("new: flow(" + lane + ")", x.flow(lane), 0);
        }
        Due.due("new: ofSwimmer(0, 0)", x.ofSwimmer(0, 0), Due.BEYOND);
        Due.due("new: trace(0)", x.trace(0), Due.NONE);
        for (int sheet = 0; sheet < 4; sheet++) {
            Due.due("new: years(" + sheet + ")", x.years(sheet), Due.NONE);
        }
        Due.due("new: restore()", x.restore(), Due.NONE);
        Due.due("new: told(1)", x.told(1), 1);
        Due.due("new: told(2)", x.told(2), 6);
        Due.due("new: told(3)", x.told(3), 0);
        Due.due("new: law(0)", x.law(0, 4, 3, 0), 10);
        Due.due("new: law(1)", x.law(1, 600, 0, 0), 50);
        Due.due("new: image()", x.image(), 1);
    }

    private static void current() {
        LakeSwimmers x = new LakeSwimmers();
        Due.due("current(5, 9)", x.current(5, 9), 0);
        Due.due("current(5, -9)", x.current(5, -9), 9);
        Due.due("current(0, 4)", x.current(0, 4), 0);
        Due.due("current(5, 10)", x.current(5, 10), Due.BEYOND);
        Due.due("current(5, -10)", x.current(5, -10), Due.BEYOND);
        Due.due("current(-1, 0)", x.current(-1, 0), Due.BEYOND);
        Due.due("current(6, 0)", x.current(6, 0), Due.BEYOND);
        Due.due("current(5, 0)", x.current(5, 0), -9);
        Due.due("current(0, 0)", x.current(0, 0), 4);
    }

    private static void set() {
        LakeSwimmers x = new LakeSwimmers();
        Due.due("set(0, 3)", x.set(0, 3), 0);
        Due.due("set(0, -3)", x.set(0, -3), 3);
        Due.due("set(0, -4)", x.set(0, -4), Due.BEYOND);
        Due.due("set(0, 4)", x.set(0, 4), Due.BEYOND);
        Due.due("set(1, 200)", x.set(1, 200), 10);
        Due.due("set(1, 0)", x.set(1, 0), 200);
        Due.due("set(1, -1)", x.set(1, -1), Due.BEYOND);
        Due.due("set(1, 201)", x.set(1, 201), Due.BEYOND);
        Due.due("set(2, 1200)", x.set(2, 1200), 600);
        Due.due("set(2, 0)", x.set(2, 0), 1200);
        Due.due("set(2, 1201)", x.set(2, 1201), Due.BEYOND);
        Due.due("set(2, -1)", x.set(2, -1), Due.BEYOND);
        Due.due("set(3, 0)", x.set(3, 0), Due.BEYOND);
        Due.due("set(-1, 0)", x.set(-1, 0), Due.BEYOND);
        Due.due("count(5)", x.count(5), -3);
        Due.due("count(6)", x.count(6), 0);
        Due.due("count(2)", x.count(2), 0);
    }

    private static void flow() {
        LakeSwimmers x = new LakeSwimmers();
        x.current(2, 9);
        x.set(0, 3);
        Due.due("flow(2)", x.flow(2), 15);
        Due.due("flow(0)", x.flow(0), 6);
        Due.due("flow(-1)", x.flow(-1), Due.BEYOND);
        Due.due("flow(6)", x.flow(6), Due.BEYOND);
        Due.due("text c*9+w*100+l", Due.read(x, 0, "c*9+l-w*100"), 1);
        Due.due("flow(2) held", x.flow(2), -30);
        x.set(0, 0);
        Due.due("flow(2) held above", x.flow(2), 30);
        Due.due("flow(5)", x.flow(5), 5);
        x.current(2, -1);
        Due.due("flow(2)", x.flow(2), -7);
    }

    private static void swimmer() {
        LakeSwimmers x = new LakeSwimmers();
        Due.due("swimmer(-1, 0)", x.swimmer(-1, 0), Due.BEYOND);
        Due.due("swimmer(70, 0)", x.swimmer(70, 0), Due.BEYOND);
        Due.due("swimmer(0, -1)", x.swimmer(0, -1), Due.BEYOND);
        Due.due("swimmer(0, 2)", x.swimmer(0, 2), Due.BEYOND);
        for (int i = 0; i < 8; i++) {
            Due.due("swimmer " + i, x.swimmer(i == 7 ? 69 : 9 * i, i % 2), i);
        }
        Due.due("a ninth", x.swimmer(0, 0), Due.FULL);
        Due.due("BEYOND ahead of FULL", x.swimmer(70, 0), Due.BEYOND);
        Due.due("count(1)", x.count(1), 8);
        Due.due("kind of 7", x.ofSwimmer(7, 0), 6);
        Due.due("m of 7", x.ofSwimmer(7, 1), 9);
        Due.due("told(4)", x.told(4), 1);
    }

    private static void ofSwimmer() {
        LakeSwimmers x = new LakeSwimmers();
        x.swimmer(47, 1);
        int[] first = {4, 7, 1, 10, 0, 0, 0, 0, 0};
        for (int i = 0; i < first.length; i++) {
            Due.due("ofSwimmer(0, " + i + ")", x.ofSwimmer(0, i), first[i]);
        }
        x.train(0, 29);
        x.plan(0, 0, 5);
        x.plan(0, 1, 4);
        x.plan(0, 2, 3);
        x.plan(0, 3, 2);
        int[] then = {4, 7, 1, 29, 0, 5, 4, 3, 2};
        for (int i = 0; i < then.length; i++) {
            Due.due("then ofSwimmer(0, " + i + ")", x.ofSwimmer(0, i), then[i]);
        }
        Due.due("ofSwimmer(0, 9)", x.ofSwimmer(0, 9), Due.BEYOND);
        Due.due("ofSwimmer(0, -1)", x.ofSwimmer(0, -1), Due.BEYOND);
        Due.due("ofSwimmer(1, 0)", x.ofSwimmer(1, 0), Due.BEYOND);
        Due.due("ofSwimmer(-1, 0)", x.ofSwimmer(-1, 0), Due.BEYOND);
        Due.due("ofSwimmer(8, 0)", x.ofSwimmer(8, 0), Due.BEYOND);
    }

    private static void train() {
        LakeSwimmers x = new LakeSwimmers();
        x.swimmer(0, 0);
        Due.due("train(0, 30)", x.train(0, 30), 10);
        Due.due("train(0, 0)", x.train(0, 0), 30);
        Due.due("train(0, 31)", x.train(0, 31), Due.BEYOND);
        Due.due("train(0, -1)", x.train(0, -1), Due.BEYOND);
        Due.due("train(1, 5)", x.train(1, 5), Due.BEYOND);
        Due.due("skill", x.ofSwimmer(0, 3), 0);
    }

    private static void plan() {
        LakeSwimmers x = new LakeSwimmers();
        x.swimmer(0, 0);
        Due.due("plan(0, 0, 5)", x.plan(0, 0, 5), 0);
        Due.due("plan(0, 0, 1)", x.plan(0, 0, 1), 5);
        Due.due("plan(0, 0, 0)", x.plan(0, 0, 0), 1);
        Due.due("plan(0, 0, 1) again", x.plan(0, 0, 1), 0);
        Due.due("plan(0, 3, 5)", x.plan(0, 3, 5), 0);
        Due.due("plan(0, 4, 1)", x.plan(0, 4, 1), Due.BEYOND);
        Due.due("plan(0, -1, 1)", x.plan(0, -1, 1), Due.BEYOND);
        Due.due("plan(0, 0, 6)", x.plan(0, 0, 6), Due.BEYOND);
        Due.due("plan(0, 0, -1)", x.plan(0, 0, -1), Due.BEYOND);
        Due.due("plan(1, 0, 0)", x.plan(1, 0, 0), Due.BEYOND);
        Due.due("lane 0", x.ofSwimmer(0, 5), 1);
        Due.due("lane 3", x.ofSwimmer(0, 8), 5);
    }

    private static void become() {
        LakeSwimmers x = new LakeSwimmers();
        x.swimmer(13, 1);
        x.train(0, 7);
        x.plan(0, 2, 4);
        Due.due("become(0, 69)", x.become(0, 69), 1);
        Due.due("become(0, 0)", x.become(0, 0), 6);
        Due.due("become(0, 58)", x.become(0, 58), 0);
        Due.due("become(0, 70)", x.become(0, 70), Due.BEYOND);
        Due.due("become(0, -1)", x.become(0, -1), Due.BEYOND);
        Due.due("become(1, 0)", x.become(1, 0), Due.BEYOND);
        int[] then = {5, 8, 1, 7, 0, 0, 0, 4, 0};
        for (int i = 0; i < then.length; i++) {
            Due.due("after become: " + i, x.ofSwimmer(0, i), then[i]);
        }
    }

    private static void as() {
        // Of a kind (row) as another one (column): 1 where it is one.
        String[] is = {"1000000", "1100000", "1010000", "1001000", "1100100", "1010010", "1001001"};
        for (int kind = 0; kind < 7; kind++) {
            LakeSwimmers x = new LakeSwimmers();
            x.swimmer(10 * kind + 3 + kind % 2, 0);
            for (int top = 0; top < 7; top++) {
                int due = is[kind].charAt(top) == '1' ? 3 + kind % 2 : Due.KIND;
                Due.due(kind + " as " + top, x.as(0, top), due);
            }
            Due.due("as(0, 7)", x.as(0, 7), Due.BEYOND);
            Due.due("as(0, -1)", x.as(0, -1), Due.BEYOND);
            Due.due("as(1, 0)", x.as(1, 0), Due.BEYOND);
        }
    }

    private static void pace() {
        int[] minutes = {0, 3, 4, 6, 7, 10, 17, 27, 59};
        int[][] paces = {
            {40, 40, 39, 39, 39, 38, 36, 34, 26},
            {60, 60, 59, 59, 19, 19, 18, 17, 13},
            {47, 47, 46, 46, 46, 45, 43, 41, 33},
            {5, 5, 5, 5, 5, 5, 5, 5, 5},
            {0, 0, 59, 59, 19, 19, 18, 17, 13},
            {47, 47, 47, 47, 47, 47, 47, 47, 47},
            {5, 5, 5, 5, 0, 5, 0, 0, 5}};
        LakeSwimmers x = new LakeSwimmers();
        x.swimmer(0, 0);
        x.train(0, 20);
        for (int kind = 0; kind < 7; kind++) {
            x.become(0, 10 * kind + 7);
            for (int i = 0; i < minutes.length; i++) {
                Due.due("pace of kind " + kind + " in " + minutes[i], x.pace(0, minutes[i]), paces[kind][i]);
            }
        }
        x.become(0, 42);
        Due.due("a decoy that has stopped sprinting", x.pace(0, 4), 19);
        x.become(0, 42);
        Due.due("a decoy in minute 3", x.pace(0, 3), 0);
        x.become(0, 0);
        x.train(0, 0);
        Due.due("the slowest", x.pace(0, 59), 6);
        Due.due("pace(0, 60)", x.pace(0, 60), Due.BEYOND);
        Due.due("pace(0, -1)", x.pace(0, -1), Due.BEYOND);
        Due.due("pace(1, 0)", x.pace(1, 0), Due.BEYOND);
    }
}
