/** Promises 19 to 26: what would be. */
public final class WouldBeTest {
    public static void main(String[] args) {
        bestPlan();
        hold();
        ask();
        leastSight();
        send();
        diary();
        training();
        fair();
        nothingChanges();
        byTheLakeAsItIs();
        Due.finish("WouldBeTest");
    }

    private static LakeSwimmers two() {
        LakeSwimmers x = new LakeSwimmers();
        x.swimmer(0, 0);
        x.swimmer(0, 1);
        return x;
    }

    private static void bestPlan() {
        LakeSwimmers x = two();
        for (int i = 0; i < 4; i++) {
            Due.due("all alike: the first as a row", x.bestPlan(0, 1, i), 0);
        }
        x.current(1, 9);
        x.current(2, -9);
        best(x, 0, 1, new int[] {1, 1, 1, 0}, 735);
        best(x, 1, 0, new int[] {2, 2, 2, 0}, 465);
        Due.planAll(x, 1, 5);
        x.plan(1, 2, 1);
        x.plan(1, 3, 4);
        best(x, 0, 1, new int[] {1, 1, 0, 4}, 735);
        // They meet in the third part: the lane of the fourth is the first one.
        x.train(0, 30);
        x.train(1, 30);
        Due.planAll(x, 1, 5);
        x.plan(1, 0, 0);
        x.plan(1, 1, 1);
        best(x, 0, 1, new int[] {1, 0, 5, 0}, 690);
        x.train(0, 10);
        x.train(1, 10);
        bestPlanAtTheEdge();
        x.swimmer(30, 0);
        Due.planAll(x, 1, 0);
        x.become(1, 30);
        Due.due("by none they meet", x.bestPlan(2, 1, -1), Due.NONE);
        Due.due("BEYOND ahead of NONE", x.bestPlan(2, 1, 4), Due.BEYOND);
        Due.due("what -2", x.bestPlan(0, 1, -2), Due.BEYOND);
        Due.due("what 4", x.bestPlan(0, 1, 4), Due.BEYOND);
        Due.due("one side", x.bestPlan(0, 2, 0), Due.BEYOND);
        Due.due("one twice", x.bestPlan(0, 0, 0), Due.BEYOND);
        Due.due("nobody", x.bestPlan(3, 0, 0), Due.BEYOND);
    }

    /** They come to 196 yards in the very last minute. */
    private static void bestPlanAtTheEdge() {
        LakeSwimmers x = two();
        x.become(0, 10);
        x.train(0, 11);
        x.become(1, 30);
        x.set(1, 195);
        Due.due("195 yards", x.bestPlan(0, 1, -1), Due.NONE);
        x.set(1, 196);
        Due.due("it is the last minute", x.meet(0, 1, 0), 59);
        best(x, 0, 1, new int[] {0, 0, 0, 0}, (704 + 900) / 2);
        best(x, 1, 0, new int[] {0, 0, 0, 0}, (704 + 900) / 2);
    }

    private static void best(LakeSwimmers x, int one, int other, int[] lanes, int place) {
        for (int i = 0; i < 4; i++) {
            Due.due("best plan of " + one + ", number " + i, x.bestPlan(one, other, i), lanes[i]);
        }
        Due.due("best plan of " + one + ", the place", x.bestPlan(one, other, -1), place);
    }

    private static void hold() {
        LakeSwimmers x = two();
        x.current(1, 9);
        x.current(2, -9);
        Due.due("of several the least lane", x.hold(0, 1, 0), 0);
        Due.due("the worst place then", x.hold(0, 1, 1), 600);
        x.set(2, 700);
        Due.due("the lane with the current", x.hold(0, 1, 0), 1);
        Due.due("not to meet is BORDER", x.hold(0, 1, 1), 700);
        x.set(2, 800);
        Due.due("the meeting is the worst", x.hold(0, 1, 1), 798);
        x.set(2, 500);
        Due.due("of side 1, the lane", x.hold(1, 0, 0), 2);
        Due.due("of side 1, the place", x.hold(1, 0, 1), 500);
        Due.due("of side 0 all alike", x.hold(0, 1, 1), 500);
        x.become(0, 30);
        x.become(1, 30);
        Due.due("who never meet", x.hold(0, 1, 1), 500);
        Due.due("what 2", x.hold(0, 1, 2), Due.BEYOND);
        Due.due("what -1", x.hold(0, 1, -1), Due.BEYOND);
        Due.due("one twice", x.hold(1, 1, 0), Due.BEYOND);
        Due.due("nobody", x.hold(1, 2, 0), Due.BEYOND);
    }

    private static void ask() {
        LakeSwimmers x = two();
        Due.due("of side 0", x.ask(0, 1), 3);
        Due.due("of side 1", x.ask(1, 0), -3);
        Due.read(x, 0, "c");
        Due.due("of several the least", x.ask(0, 1), -3);
        Due.read(x, 0, "0-w*w");
        Due.due("no wind", x.ask(0, 1), 0);
        Due.due("of two the least", x.ask(1, 0), -3);
        Due.due("WIND stays", x.count(5), 0);
        Due.planAll(x, 0, 1);
        Due.due("by none", x.ask(0, 1), Due.NONE);
        Due.due("one twice", x.ask(0, 0), Due.BEYOND);
        Due.due("nobody", x.ask(2, 0), Due.BEYOND);
    }

    private static void leastSight() {
        LakeSwimmers x = two();
        Due.due("who pass", x.leastSight(0, 1), 0);
        x.become(0, 10);
        x.become(1, 30);
        Due.due("224 yards", x.leastSight(0, 1), Due.NONE);
        x.train(0, 11);
        Due.due("196 yards", x.leastSight(0, 1), 196);
        Due.due("either order", x.leastSight(1, 0), 196);
        x.become(0, 11);
        x.become(1, 65);
        x.current(1, 1);
        x.plan(1, 0, 1);
        Due.due("200 yards", x.leastSight(0, 1), 200);
        Due.due("SIGHT stays", x.count(6), 10);
        x.current(1, 2);
        Due.due("210 yards", x.leastSight(0, 1), Due.NONE);
        x.current(1, 0);
        Due.planAll(x, 1, 1);
        Due.due("never in one lane", x.leastSight(0, 1), Due.NONE);
        Due.due("one twice", x.leastSight(0, 0), Due.BEYOND);
        Due.due("nobody", x.leastSight(0, 8), Due.BEYOND);
        LakeSwimmers y = two();
        y.become(0, 30);
        y.become(1, 30);
        y.train(0, 10);
        y.current(1, 9);
        y.current(2, -9);
        for (int i = 1; i < 4; i++) {
            y.plan(0, i, 2);
            y.plan(1, i, 1);
        }
        Due.due("1100 yards once, 1200 then", y.leastSight(0, 1), Due.NONE);
    }

    private static void send() {
        LakeSwimmers x = two();
        Due.due("against 1", x.send(1), 0);
        Due.due("against 0", x.send(0), 1);
        x.swimmer(0, 0);
        x.swimmer(0, 0);
        x.swimmer(0, 1);
        Due.due("of several the least number", x.send(1), 0);
        x.train(2, 20);
        x.train(3, 20);
        Due.due("the best of side 0", x.send(1), 2);
        x.train(4, 11);
        Due.due("the best of side 1", x.send(0), 4);
        Due.planAll(x, 2, 1);
        Due.planAll(x, 3, 1);
        Due.due("who meets", x.send(1), 0);
        Due.planAll(x, 0, 1);
        Due.due("nobody meets", x.send(1), Due.NONE);
        Due.due("nobody", x.send(5), Due.BEYOND);
        Due.due("nobody", x.send(-1), Due.BEYOND);
        LakeSwimmers alone = new LakeSwimmers();
        alone.swimmer(0, 0);
        Due.due("nobody on the other side", alone.send(0), Due.NONE);
    }

    private static void diary() {
        LakeSwimmers x = two();
        Due.due("in each lane", x.diary(0, 1, 21, 600, 0), 6);
        Due.due("the first", x.diary(0, 1, 21, 600, 1), 0);
        x.current(0, 9);
        x.current(1, -9);
        x.current(5, 9);
        Due.due("in 3 lanes", x.diary(1, 0, 21, 600, 0), 3);
        Due.due("the first of 3", x.diary(1, 0, 21, 600, 1), 22);
        Due.due("with the current", x.diary(0, 1, 21, 798, 0), 2);
        Due.due("against it", x.diary(0, 1, 21, 402, 1), 11);
        Due.due("another minute", x.diary(0, 1, 20, 600, 0), 0);
        Due.due("another place", x.diary(0, 1, 21, 601, 1), Due.NONE);
        Due.due("edges", x.diary(0, 1, 59, 1200, 0), 0);
        Due.due("edges", x.diary(0, 1, 0, 0, 0), 0);
        Due.due("minute -1", x.diary(0, 1, -1, 600, 1), Due.BEYOND);
        Due.due("minute 60", x.diary(0, 1, 60, 600, 1), Due.BEYOND);
        Due.due("place -1", x.diary(0, 1, 21, -1, 1), Due.BEYOND);
        Due.due("place 1201", x.diary(0, 1, 21, 1201, 1), Due.BEYOND);
        Due.due("what 2", x.diary(0, 1, 21, 600, 2), Due.BEYOND);
        Due.due("what -1", x.diary(0, 1, 21, 600, -1), Due.BEYOND);
        Due.due("one twice", x.diary(0, 0, 21, 600, 0), Due.BEYOND);
        Due.due("nobody", x.diary(0, 2, 21, 600, 0), Due.BEYOND);
    }

    private static void training() {
        LakeSwimmers x = two();
        Due.due("for 600", x.training(0, 1, 600), 10);
        Due.due("for 0", x.training(0, 1, 0), 0);
        Due.due("for 760", x.training(0, 1, 760), 30);
        Due.due("for 761", x.training(0, 1, 761), Due.NONE);
        Due.due("for 1200", x.training(0, 1, 1200), Due.NONE);
        Due.due("of side 1 for 600", x.training(1, 0, 600), 10);
        Due.due("of side 1 for 1200", x.training(1, 0, 1200), 0);
        Due.due("of side 1 for 440", x.training(1, 0, 440), 30);
        Due.due("of side 1 for 439", x.training(1, 0, 439), Due.NONE);
        Due.due("skill stays", x.ofSwimmer(0, 3), 10);
        Due.planAll(x, 0, 1);
        Due.due("they miss each other", x.training(0, 1, 0), Due.NONE);
        Due.due("place -1", x.training(0, 1, -1), Due.BEYOND);
        Due.due("place 1201", x.training(0, 1, 1201), Due.BEYOND);
        Due.due("one twice", x.training(0, 0, 0), Due.BEYOND);
        Due.due("nobody", x.training(0, 2, 0), Due.BEYOND);
    }

    private static void fair() {
        LakeSwimmers x = two();
        Due.due("both alike", x.fair(0, 1), 0);
        x.train(0, 30);
        Due.due("still water", x.fair(0, 1), 0);
        x.current(0, 9);
        Due.due("a current", x.fair(0, 1), 288);
        Due.due("either order", x.fair(1, 0), 288);
        x.current(0, -9);
        Due.due("a current back", x.fair(0, 1), -288);
        Due.planAll(x, 0, 1);
        Due.due("they miss each other", x.fair(0, 1), Due.NONE);
        Due.due("one twice", x.fair(0, 0), Due.BEYOND);
        Due.due("nobody", x.fair(0, 2), Due.BEYOND);
        fairButOneWay();
    }

    /** A sprinter with a current behind reaches the drifter; from the other side it doesn't. */
    private static void fairButOneWay() {
        LakeSwimmers x = two();
        x.become(0, 10);
        x.become(1, 30);
        x.current(1, 9);
        x.plan(0, 0, 1);
        x.plan(0, 1, 1);
        x.plan(0, 2, 1);
        Due.due("as it is", x.meet(0, 1, 2), 0);
        Due.due("not so", x.fair(0, 1), Due.NONE);
        Due.due("told(2)", x.told(2), 1);
    }

    /** Each is asked right behind a change of the lake. */
    private static void byTheLakeAsItIs() {
        LakeSwimmers x = two();
        x.meet(0, 1, 0);
        x.current(0, 9);
        Due.due("bestPlan", x.bestPlan(0, 1, -1), (982 + 32 + 668 - 14) / 2);
        x.current(0, 0);
        x.set(2, 1200);
        Due.due("hold", x.hold(0, 1, 1), 600);
        x.current(0, 9);
        Due.due("training", x.training(0, 1, 798), 10);
        x.current(0, 0);
        Due.due("diary", x.diary(0, 1, 21, 600, 0), 6);
        x.current(0, -9);
        Due.due("fair", x.fair(0, 1), -396);
        x.swimmer(0, 0);
        Due.planAll(x, 2, 1);
        Due.planAll(x, 0, 1);
        x.plan(0, 0, 0);
        x.plan(0, 3, 0);
        x.plan(2, 3, 0);
        x.current(1, 9);
        x.current(0, 9);
        Due.due("send by a current", x.send(1), 0);
        x.current(0, -9);
        Due.due("send by another one", x.send(1), 2);
        x.current(0, 0);
        x.current(1, 0);
        Due.due("send by none", x.send(1), 0);
        Due.due("leastSight", x.leastSight(0, 1), 0);
    }

    private static void nothingChanges() {
        LakeSwimmers x = two();
        x.current(1, 5);
        x.plan(0, 1, 1);
        x.plan(1, 1, 1);
        x.bestPlan(0, 1, 0);
        x.hold(0, 1, 0);
        x.ask(0, 1);
        x.leastSight(0, 1);
        x.send(0);
        x.diary(0, 1, 0, 0, 0);
        x.training(0, 1, 600);
        x.fair(0, 1);
        int[] of = {0, 0, 0, 10, 0, 0, 1, 0, 0};
        for (int i = 0; i < of.length; i++) {
            Due.due("0 stays, " + i, x.ofSwimmer(0, i), of[i]);
            Due.due("1 stays, " + i, x.ofSwimmer(1, i), i == 2 ? 1 : of[i]);
        }
        int[] counts = {0, 2, 600, 0, 0, 0, 10, 0, 0, 0, 1};
        for (int i = 0; i < counts.length; i++) {
            Due.due("count stays, " + i, x.count(i), counts[i]);
        }
    }
}
