import java.util.ArrayList;
import java.util.List;

/**
 * Every call that is refused, at the first value beyond either end and at the farthest ints: its
 * ERROR, in the order of the document, is told once more, and nothing else changes. Whether
 * something has changed is seen by a twin, made alike, that never got the call.
 */
public final class RefusedTest {
    private static final int BEYOND = 1;
    private static final int NONE = 2;
    private static final int STATE = 3;
    private static final int FULL = 4;
    private static final int KIND = 5;

    private interface Scene {
        LakeSwimmers make();
    }

    private interface Call {
        int on(LakeSwimmers x);
    }

    private interface With {
        int on(LakeSwimmers x, int v);
    }

    private interface WithTwo {
        int on(LakeSwimmers x, int one, int other);
    }

    public static void main(String[] args) {
        ofTheLake();
        ofSwimmers();
        ofKinds();
        ofTexts();
        ofSwims();
        ofWhatWouldBe();
        noneOfWhatWouldBe();
        ofVoices();
        ofSheets();
        ofMoves();
        ofImages();
        ofWhatWaits();
        ofCounts();
        Due.finish("RefusedTest");
    }

    // ---- scenes

    /** Three swimmers, 0 and 2 of side 0, 1 of side 1; sheet 0 of 8 bits, 1 of 16, 2 of 32, 3 missing. */
    private static LakeSwimmers some() {
        LakeSwimmers x = new LakeSwimmers();
        x.swimmer(7, 0);
        x.swimmer(53, 1);
        x.swimmer(32, 0);
        Due.feed(x, "c+w+l");
        x.text(0);
        x.tell(640);
        x.train(0, 3);
        x.image();
        for (int lane = 0; lane < 6; lane++) {
            x.current(lane, lane - 2);
        }
        x.set(0, 2);
        x.set(1, 33);
        Due.feed(x, "b/10+y");
        x.text(1);
        x.train(0, 17);
        x.plan(0, 3, 4);
        x.plan(1, 2, 1);
        x.year(0, 1);
        x.set(2, 444);
        x.seed(99);
        x.voice(1, 3, 4);
        for (int sheet = 0; sheet < 3; sheet++) {
            x.sheet(sheet, 8 << sheet, 5 - sheet);
            for (int i = 0; i < 5 - sheet; i++) {
                x.put(sheet, i, x.where(2, i));
            }
        }
        x.tell(641);
        Due.feed(x, "l+");
        return x;
    }

    /** Eight swimmers, 49 bytes, 20 numbers that wait. */
    private static LakeSwimmers full() {
        LakeSwimmers x = some();
        for (int i = 3; i < 8; i++) {
            x.swimmer(11 * (i - 3), i % 2);
        }
        for (int i = 2; i < 49; i++) {
            x.feed("1+".charAt(i % 2), 1);
        }
        for (int i = 2; i < 20; i++) {
            x.tell(640 + i);
        }
        return x;
    }

    /** 0 and 1 keep to lanes of their own. */
    private static LakeSwimmers apart() {
        LakeSwimmers x = some();
        Due.planAll(x, 0, 5);
        Due.planAll(x, 2, 5);
        Due.planAll(x, 1, 3);
        return x;
    }

    /** 0 and 2 are drifters, 1 is one that is cramped: by no plan they come to 200 yards. */
    private static LakeSwimmers adrift() {
        LakeSwimmers x = some();
        x.become(0, 30);
        x.become(1, 65);
        return x;
    }

    // ---- what holds of every one that is refused

    private static void refused(Scene scene, String call, int k, Call made) {
        LakeSwimmers x = scene.make();
        LakeSwimmers twin = scene.make();
        Due.due(call, made.on(x), Due.LOW - k);
        compare(call, k, x, twin);
    }

    private static void compare(String call, int k, LakeSwimmers x, LakeSwimmers twin) {
        for (int e = 1; e <= 5; e++) {
            Due.due("told(" + e + ") behind " + call, x.told(e), twin.told(e) + (e == k ? 1 : 0));
        }
        Due.due("what has changed by " + call, all(x).equals(all(twin)) ? 0 : 1, 0);
    }

    /** Also with the farthest ints; % stands for the value. */
    private static void each(Scene scene, String call, int k, With made, int... values) {
        for (int v : values) {
            refused(scene, call.replace("%", "" + v), k, x -> made.on(x, v));
        }
        int[] farthest = {Integer.MIN_VALUE, Integer.MAX_VALUE};
        for (int v : farthest) {
            refused(scene, call.replace("%", "" + v), k, x -> made.on(x, v));
        }
    }

    /** Nobody, one twice, two of one side. */
    private static void noTwo(String name, WithTwo made) {
        int[][] twos = {{-1, 1}, {1, -1}, {3, 1}, {1, 3}, {8, 1}, {1, 8}, {0, 0}, {1, 1}, {0, 2}, {2, 0}, {9, 9},
            {Integer.MIN_VALUE, 1}, {0, Integer.MIN_VALUE}, {Integer.MAX_VALUE, 1}, {0, Integer.MAX_VALUE}};
        for (int[] two : twos) {
            refused(RefusedTest::some, name + "(" + two[0] + ", " + two[1] + ", ..)", BEYOND,
                x -> made.on(x, two[0], two[1]));
        }
        refused(LakeSwimmers::new, name + "(0, 1, ..) without swimmers", BEYOND, x -> made.on(x, 0, 1));
    }

    /** All that can be seen of a lake; it is another one then. */
    private static List<Integer> all(LakeSwimmers x) {
        List<Integer> seen = new ArrayList<>();
        asItIs(x, seen);
        for (int i = 0; i <= 12; i++) {
            seen.add(x.trace(i));
        }
        for (int sheet = 0; sheet < 4; sheet++) {
            seen.add(x.judge(sheet, 2));
            seen.add(x.put(sheet, 5 - sheet, 0));
        }
        seen.add(x.feed('3', 1));
        seen.add(x.text(0));
        seen.add(x.law(0, 5, 3, 2));
        seen.add(x.check(0, 1));
        seen.add(x.restore());
        asItIs(x, seen);
        seen.add(x.check(0, 1));
        seen.add(x.image());
        return seen;
    }

    private static void asItIs(LakeSwimmers x, List<Integer> seen) {
        for (int what = 0; what <= 10; what++) {
            seen.add(x.count(what));
        }
        for (int i = 0; i < 6; i++) {
            seen.add(x.flow(i));
            seen.add(x.law(0, 2 * i, i, 3));
            seen.add(x.law(1, 100 * i, i, 3));
        }
        for (int i = 0; i < x.count(1); i++) {
            for (int what = 0; what <= 8; what++) {
                seen.add(x.ofSwimmer(i, what));
            }
        }
    }

    // ---- promises 2 to 11

    private static void ofTheLake() {
        Scene some = RefusedTest::some;
        each(some, "current(%, 0)", BEYOND, (x, v) -> x.current(v, 0), -1, 6);
        each(some, "current(0, %)", BEYOND, (x, v) -> x.current(0, v), -10, 10);
        each(some, "current(5, %)", BEYOND, (x, v) -> x.current(5, v), -10, 10);
        each(some, "current(%, 10)", BEYOND, (x, v) -> x.current(v, 10), -1, 6);
        each(some, "set(%, 0)", BEYOND, (x, v) -> x.set(v, 0), -1, 3);
        each(some, "set(0, %)", BEYOND, (x, v) -> x.set(0, v), -4, 4);
        each(some, "set(1, %)", BEYOND, (x, v) -> x.set(1, v), -1, 201);
        each(some, "set(2, %)", BEYOND, (x, v) -> x.set(2, v), -1, 1201);
        each(some, "flow(%)", BEYOND, (x, v) -> x.flow(v), -1, 6);
    }

    private static void ofSwimmers() {
        Scene some = RefusedTest::some;
        Scene full = RefusedTest::full;
        each(some, "swimmer(%, 0)", BEYOND, (x, v) -> x.swimmer(v, 0), -1, 70);
        each(some, "swimmer(0, %)", BEYOND, (x, v) -> x.swimmer(0, v), -1, 2);
        each(full, "swimmer(%, 0) as a ninth", BEYOND, (x, v) -> x.swimmer(v, 0), -1, 70);
        each(full, "swimmer(0, %) as a ninth", BEYOND, (x, v) -> x.swimmer(0, v), -1, 2);
        refused(full, "swimmer(0, 0) as a ninth", FULL, x -> x.swimmer(0, 0));
        refused(full, "swimmer(69, 1) as a ninth", FULL, x -> x.swimmer(69, 1));
        each(some, "ofSwimmer(%, 0)", BEYOND, (x, v) -> x.ofSwimmer(v, 0), -1, 3, 7, 8);
        each(full, "ofSwimmer(%, 0) of eight", BEYOND, (x, v) -> x.ofSwimmer(v, 0), -1, 8);
        each(some, "ofSwimmer(0, %)", BEYOND, (x, v) -> x.ofSwimmer(0, v), -1, 9);
        each(some, "train(%, 5)", BEYOND, (x, v) -> x.train(v, 5), -1, 3, 8);
        each(full, "train(%, 5) of eight", BEYOND, (x, v) -> x.train(v, 5), -1, 8);
        each(some, "train(0, %)", BEYOND, (x, v) -> x.train(0, v), -1, 31);
        each(some, "plan(%, 0, 5)", BEYOND, (x, v) -> x.plan(v, 0, 5), -1, 3, 8);
        each(some, "plan(0, %, 5)", BEYOND, (x, v) -> x.plan(0, v, 5), -1, 4);
        each(some, "plan(0, 0, %)", BEYOND, (x, v) -> x.plan(0, 0, v), -1, 6);
        each(some, "plan(0, 3, %)", BEYOND, (x, v) -> x.plan(0, 3, v), -1, 6);
    }

    private static void ofKinds() {
        Scene some = RefusedTest::some;
        each(some, "become(%, 11)", BEYOND, (x, v) -> x.become(v, 11), -1, 3, 8);
        each(some, "become(0, %)", BEYOND, (x, v) -> x.become(0, v), -1, 70);
        each(some, "as(%, 0)", BEYOND, (x, v) -> x.as(v, 0), -1, 3, 8);
        each(some, "as(%, 6), ahead of KIND", BEYOND, (x, v) -> x.as(v, 6), -1, 3, 8);
        each(some, "as(0, %)", BEYOND, (x, v) -> x.as(0, v), -1, 7);
        for (int kind = 1; kind < 7; kind++) {
            int k = kind;
            refused(some, "a SWIMMER as " + k, KIND, x -> x.as(0, k));
            if (k != 2 && k != 5) {
                refused(some, "a STEADY as " + k, KIND, x -> x.as(1, k));
            }
            if (k != 3) {
                refused(some, "a DRIFTER as " + k, KIND, x -> x.as(2, k));
            }
        }
        each(some, "pace(%, 0)", BEYOND, (x, v) -> x.pace(v, 0), -1, 3, 8);
        each(some, "pace(0, %)", BEYOND, (x, v) -> x.pace(0, v), -1, 60);
    }

    // ---- promises 12 to 18

    private static void ofTexts() {
        Scene some = RefusedTest::some;
        Scene full = RefusedTest::full;
        each(some, "feed('c', %)", BEYOND, (x, v) -> x.feed('c', v), -1, 0, 9);
        each(full, "feed('c', %) on 49 bytes", BEYOND, (x, v) -> x.feed('c', v), -1, 0, 9);
        for (int n = 2; n <= 8; n++) {
            int bytes = n;
            refused(full, "feed(.., " + n + ") on 49 bytes", FULL, x -> x.feed(-1L, bytes));
        }
        Scene brim = () -> {
            LakeSwimmers x = full();
            x.feed('+', 1);
            return x;
        };
        refused(brim, "feed(.., 1) on 50 bytes", FULL, x -> x.feed('c', 1));
        refused(brim, "feed(.., 8) on 50 bytes", FULL, x -> x.feed('c', 8));
        each(some, "text(%)", BEYOND, (x, v) -> x.text(v), -1, 2);
        each(LakeSwimmers::new, "text(%) of no bytes", BEYOND, (x, v) -> x.text(v), -1, 2);
        each(some, "law(%, 1, 1, 1)", BEYOND, (x, v) -> x.law(v, 1, 1, 1), -1, 2);
    }

    private static void ofSwims() {
        Scene some = RefusedTest::some;
        each(some, "where(%, 0)", BEYOND, (x, v) -> x.where(v, 0), -1, 3, 8);
        each(some, "where(0, %)", BEYOND, (x, v) -> x.where(0, v), -1, 61);
        noTwo("meet", (x, one, other) -> x.meet(one, other, 0));
        each(some, "meet(0, 1, %)", BEYOND, (x, v) -> x.meet(0, 1, v), -1, 3);
        each(RefusedTest::apart, "meet(0, 1, %), ahead of NONE", BEYOND, (x, v) -> x.meet(0, 1, v), -1, 3);
        for (int what = 0; what < 3; what++) {
            int w = what;
            refused(RefusedTest::apart, "meet(0, 1, " + w + ") of two apart", NONE, x -> x.meet(0, 1, w));
            refused(RefusedTest::apart, "meet(1, 0, " + w + ") of two apart", NONE, x -> x.meet(1, 0, w));
        }
        noTwo("year", LakeSwimmers::year);
        noTwo("loose", LakeSwimmers::loose);
    }

    // ---- promises 19 to 26

    private static void ofWhatWouldBe() {
        Scene some = RefusedTest::some;
        Scene adrift = RefusedTest::adrift;
        noTwo("bestPlan", (x, one, other) -> x.bestPlan(one, other, -1));
        each(some, "bestPlan(0, 1, %)", BEYOND, (x, v) -> x.bestPlan(0, 1, v), -2, 4);
        each(adrift, "bestPlan(0, 1, %), ahead of NONE", BEYOND, (x, v) -> x.bestPlan(0, 1, v), -2, 4);
        noTwo("hold", (x, one, other) -> x.hold(one, other, 0));
        each(some, "hold(0, 1, %)", BEYOND, (x, v) -> x.hold(0, 1, v), -1, 2);
        noTwo("ask", LakeSwimmers::ask);
        noTwo("leastSight", LakeSwimmers::leastSight);
        each(some, "send(%)", BEYOND, (x, v) -> x.send(v), -1, 3, 8);
        noTwo("diary", (x, one, other) -> x.diary(one, other, 20, 600, 0));
        noTwo("diary of the first", (x, one, other) -> x.diary(one, other, 20, 600, 1));
        for (int what = 0; what < 2; what++) {
            int w = what;
            each(some, "diary(0, 1, %, 600, " + w + ")", BEYOND, (x, v) -> x.diary(0, 1, v, 600, w), -1, 60);
            each(some, "diary(0, 1, 20, %, " + w + ")", BEYOND, (x, v) -> x.diary(0, 1, 20, v, w), -1, 1201);
        }
        each(some, "diary(0, 1, 20, 600, %)", BEYOND, (x, v) -> x.diary(0, 1, 20, 600, v), -1, 2);
        noTwo("training", (x, one, other) -> x.training(one, other, 600));
        each(some, "training(0, 1, %)", BEYOND, (x, v) -> x.training(0, 1, v), -1, 1201);
        each(RefusedTest::apart, "training(0, 1, %), ahead of NONE", BEYOND, (x, v) -> x.training(0, 1, v), -1, 1201);
        noTwo("fair", LakeSwimmers::fair);
    }

    private static void noneOfWhatWouldBe() {
        Scene apart = RefusedTest::apart;
        Scene adrift = RefusedTest::adrift;
        for (int what = -1; what < 4; what++) {
            int w = what;
            refused(adrift, "bestPlan(0, 1, " + w + ") of two adrift", NONE, x -> x.bestPlan(0, 1, w));
            refused(adrift, "bestPlan(1, 0, " + w + ") of two adrift", NONE, x -> x.bestPlan(1, 0, w));
        }
        refused(apart, "ask(0, 1) of two apart", NONE, x -> x.ask(0, 1));
        refused(adrift, "ask(1, 0) of two adrift", NONE, x -> x.ask(1, 0));
        refused(apart, "leastSight(0, 1) of two apart", NONE, x -> x.leastSight(0, 1));
        refused(adrift, "leastSight(1, 0) of two adrift", NONE, x -> x.leastSight(1, 0));
        refused(apart, "send(0) where none meets", NONE, x -> x.send(0));
        refused(apart, "send(1) where none meets", NONE, x -> x.send(1));
        refused(apart, "diary(0, 1, 0, 600, 1)", NONE, x -> x.diary(0, 1, 0, 600, 1));
        refused(adrift, "diary(0, 1, 59, 1200, 1)", NONE, x -> x.diary(0, 1, 59, 1200, 1));
        refused(apart, "training(0, 1, 0) of two apart", NONE, x -> x.training(0, 1, 0));
        refused(apart, "training(1, 0, 1200) of two apart", NONE, x -> x.training(1, 0, 1200));
        refused(RefusedTest::some, "training(0, 1, 1200)", NONE, x -> x.training(0, 1, 1200));
        refused(apart, "fair(0, 1) of two apart", NONE, x -> x.fair(0, 1));
    }

    // ---- promises 28 to 40

    private static void ofVoices() {
        Scene some = RefusedTest::some;
        each(some, "voice(%, 0, 1)", BEYOND, (x, v) -> x.voice(v, 0, 1), -1, 3, 8);
        each(some, "voice(0, %, 1)", BEYOND, (x, v) -> x.voice(0, v, 1), -1, 4);
        // A STEADY has told: eight bodies.
        each(some, "trace(%)", NONE, (x, v) -> x.trace(v), -1, 8, 39, 40);
        each(LakeSwimmers::new, "trace(%) without a voice", NONE, (x, v) -> x.trace(v), -1, 0, 1);
    }

    private static void ofSheets() {
        Scene some = RefusedTest::some;
        each(some, "sheet(%, 8, 1)", BEYOND, (x, v) -> x.sheet(v, 8, 1), -1, 4);
        each(some, "sheet(%, 8, -1), ahead of STATE", BEYOND, (x, v) -> x.sheet(v, 8, -1), -1, 4);
        each(some, "sheet(%, 0, 0)", BEYOND, (x, v) -> x.sheet(v, 0, 0), -1, 4);
        each(some, "sheet(0, %, 1)", BEYOND, (x, v) -> x.sheet(0, v, 1), -8, -1, 1, 4, 7, 9, 15, 17, 24, 31, 33, 64);
        each(some, "sheet(0, %, -1), ahead of STATE", BEYOND, (x, v) -> x.sheet(0, v, -1), -1, 1, 7, 64);
        for (int bits = 8; bits <= 32; bits *= 2) {
            int b = bits;
            for (int sheet = 0; sheet < 4; sheet++) {
                int s = sheet;
                refused(some, "sheet(" + s + ", " + b + ", -1)", STATE, x -> x.sheet(s, b, -1));
                refused(some, "sheet(" + s + ", " + b + ", least)", STATE, x -> x.sheet(s, b, Integer.MIN_VALUE));
                refused(some, "sheet(" + s + ", " + b + ", 41)", BEYOND, x -> x.sheet(s, b, 41));
                refused(some, "sheet(" + s + ", " + b + ", most)", BEYOND, x -> x.sheet(s, b, Integer.MAX_VALUE));
            }
        }
        each(some, "put(%, 0, 9)", BEYOND, (x, v) -> x.put(v, 0, 9), -1, 4);
        each(some, "put(0, %, 9)", BEYOND, (x, v) -> x.put(0, v, 9), -1, 5, 39, 40);
        each(some, "put(1, %, 9)", BEYOND, (x, v) -> x.put(1, v, 9), -1, 4);
        each(some, "put(2, %, 9)", BEYOND, (x, v) -> x.put(2, v, 9), -1, 3);
        each(some, "put(3, %, 9) of one that is missing", NONE, (x, v) -> x.put(3, v, 9), -1, 0, 40);
        each(some, "years(%)", BEYOND, (x, v) -> x.years(v), -1, 4);
        refused(some, "years(3) of one that is missing", NONE, x -> x.years(3));
        each(some, "judge(%, 0)", BEYOND, (x, v) -> x.judge(v, 0), -1, 4);
        each(some, "judge(0, %)", BEYOND, (x, v) -> x.judge(0, v), -1, 3, 8);
        each(some, "judge(3, %), ahead of NONE", BEYOND, (x, v) -> x.judge(3, v), -1, 3, 8);
        refused(some, "judge(3, 0) of one that is missing", NONE, x -> x.judge(3, 0));
    }

    private static void ofMoves() {
        Scene some = RefusedTest::some;
        Scene even = () -> {
            LakeSwimmers x = some();
            x.sheet(3, 8, 3);
            return x;
        };
        each(some, "move(%, 0, 0, 1, 1)", BEYOND, (x, v) -> x.move(v, 0, 0, 1, 1), -1, 4);
        each(some, "move(0, 0, %, 1, 1)", BEYOND, (x, v) -> x.move(0, 0, v, 1, 1), -1, 4);
        each(some, "move(%, .., 3, ..), ahead of NONE", BEYOND, (x, v) -> x.move(v, 0, 3, 0, 1), -1, 4);
        each(some, "move(3, .., %, ..), ahead of NONE", BEYOND, (x, v) -> x.move(3, 0, v, 0, 1), -1, 4);
        each(some, "move(0, 0, 3, 0, %), ahead of BEYOND", NONE, (x, v) -> x.move(0, 0, 3, 0, v), -1, 0, 1, 6);
        each(some, "move(3, 0, 0, 0, %), ahead of BEYOND", NONE, (x, v) -> x.move(3, 0, 0, 0, v), -1, 0, 1, 6);
        refused(some, "move(3, 0, 3, 0, 0)", NONE, x -> x.move(3, 0, 3, 0, 0));
        each(some, "move(0, 0, 1, 0, %), ahead of BEYOND", KIND, (x, v) -> x.move(0, 0, 1, 0, v), -1, 0, 1, 6);
        each(some, "move(1, %, 2, 0, 1), ahead of BEYOND", KIND, (x, v) -> x.move(1, v, 2, 0, 1), -1, 0, 4);
        each(some, "move(2, 0, 0, %, 1), ahead of BEYOND", KIND, (x, v) -> x.move(2, 0, 0, v, 1), -1, 0, 5);
        each(even, "move(0, 0, 3, 0, %)", BEYOND, (x, v) -> x.move(0, 0, 3, 0, v), -1, 4, 5, 6);
        each(even, "move(3, 0, 0, 0, %)", BEYOND, (x, v) -> x.move(3, 0, 0, 0, v), -1, 4);
        each(even, "move(0, %, 3, 0, 1)", BEYOND, (x, v) -> x.move(0, v, 3, 0, 1), -1, 5);
        each(even, "move(0, 0, 3, %, 1)", BEYOND, (x, v) -> x.move(0, 0, 3, v, 1), -1, 3);
        each(even, "move(0, %, 3, 0, 0)", BEYOND, (x, v) -> x.move(0, v, 3, 0, 0), -1, 6);
        each(even, "move(0, 0, 3, %, 0)", BEYOND, (x, v) -> x.move(0, 0, 3, v, 0), -1, 4);
        each(even, "move(0, 0, 0, 1, %)", BEYOND, (x, v) -> x.move(0, 0, 0, 1, v), -1, 5);
        each(even, "move(0, 4, 0, 0, %)", BEYOND, (x, v) -> x.move(0, 4, 0, 0, v), -1, 2);
        refused(even, "move(0, 3, 3, 1, 3)", BEYOND, x -> x.move(0, 3, 3, 1, 3));
    }

    private static void ofImages() {
        refused(LakeSwimmers::new, "restore() ahead of image()", NONE, x -> x.restore());
        Scene unkept = () -> {
            LakeSwimmers x = new LakeSwimmers();
            x.swimmer(0, 0);
            x.swimmer(0, 1);
            x.year(0, 1);
            return x;
        };
        refused(unkept, "restore() of two ahead of image()", NONE, x -> x.restore());
    }

    /** check() empties what waits, whether it is refused or not; the rest stays. */
    private static void ofWhatWaits() {
        Scene full = RefusedTest::full;
        each(full, "tell(%) as the 21st", FULL, (x, v) -> x.tell(v), 0, 600);
        int[][] twos = {{-1, 1}, {1, -1}, {8, 1}, {1, 8}, {0, 0}, {1, 1}, {0, 2}, {2, 0},
            {Integer.MIN_VALUE, 1}, {0, Integer.MAX_VALUE}};
        for (int[] two : twos) {
            String call = "check(" + two[0] + ", " + two[1] + ")";
            LakeSwimmers x = full();
            LakeSwimmers twin = full();
            Due.due(call, x.check(two[0], two[1]), Due.BEYOND);
            Due.due("20 wait", twin.count(8), 20);
            twin.check(0, 1);
            Due.due("none wait behind " + call, x.count(8), 0);
            Due.due("a number behind " + call + " is the first", x.tell(7), twin.tell(7));
            compare(call, BEYOND, x, twin);
        }
        refused(LakeSwimmers::new, "check(0, 1) without swimmers", BEYOND, x -> x.check(0, 1));
    }

    private static void ofCounts() {
        each(RefusedTest::some, "count(%)", BEYOND, (x, v) -> x.count(v), -1, 11);
        each(RefusedTest::some, "told(%), which is counted, too", BEYOND, (x, v) -> x.told(v), -1, 0, 6);
    }
}
