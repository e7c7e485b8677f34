/**
 * Where the sentences of promises 19 to 26 have their edges. What would be is found once more by
 * doing it: on new lakes, one for each plan, WIND, SIGHT, SKILL or SIDE, by meet() alone.
 */
public final class WouldBeEdgeTest {
    private static final int SCENES = 12;

    public static void main(String[] args) {
        for (int scene = 0; scene < SCENES; scene++) {
            for (int one = 0; one < 2; one++) {
                bestPlanDone(scene, one);
                holdDone(scene, one);
                askDone(scene, one);
                leastSightDone(scene, one);
                trainingDone(scene, one);
                diaryDone(scene, one);
                fairDone(scene, one);
            }
        }
        bestPlanOfSeveral();
        holdAtTheShores();
        askAtTheEnds();
        leastSights();
        sendOfEight();
        diaryAtTheEnds();
        trainingAtTheEnds();
        fairAtTheEnds();
        Due.finish("WouldBeEdgeTest");
    }

    /** Swimmers 0 of side 0 and 1 of side 1, some of whom meet early, late, at a shore or by no means. */
    private static LakeSwimmers make(int scene) {
        LakeSwimmers x = new LakeSwimmers();
        int[][] kms = {{0, 0}, {19, 43}, {25, 52}, {10, 30}, {69, 23}, {48, 19}, {30, 30}, {12, 30}, {50, 65},
            {29, 58}, {40, 30}, {61, 34}};
        x.swimmer(kms[scene][0], 0);
        x.swimmer(kms[scene][1], 1);
        x.train(0, scene * 7 % 31);
        x.train(1, scene * 11 % 31);
        for (int lane = 0; lane < 6; lane++) {
            x.current(lane, (scene * 5 + lane * (scene + 3)) % 19 - 9);
        }
        for (int i = 0; i < 4; i++) {
            x.plan(0, i, scene * (i + 1) % 3);
            x.plan(1, i, (scene + i) % 3);
        }
        x.set(0, scene % 7 - 3);
        x.set(1, new int[] {10, 0, 200, 100}[scene % 4]);
        x.set(2, new int[] {600, 0, 1200, 500, 700}[scene % 5]);
        if (scene % 3 == 2) {
            Due.read(x, 0, "c*w-l");
        }
        return x;
    }

    private static boolean better(int side, int place, int than) {
        return side == 0 ? place > than : place < than;
    }

    private static int place(LakeSwimmers x) {
        return x.meet(0, 1, 1);
    }

    // ---- by doing it

    /** "of all PLANS that by which they MEET, and where that is best for the one; of several the first as a row" */
    private static void bestPlanDone(int scene, int one) {
        int[] best = null;
        for (int p = 0; p < 1296; p++) {
            int[] lanes = {p / 216, p / 36 % 6, p / 6 % 6, p % 6};
            LakeSwimmers x = make(scene);
            for (int i = 0; i < 4; i++) {
                x.plan(one, i, lanes[i]);
            }
            int place = place(x);
            if (place >= 0 && (best == null || better(one, place, best[4]))) {
                best = new int[] {lanes[0], lanes[1], lanes[2], lanes[3], place};
            }
        }
        LakeSwimmers x = make(scene);
        for (int what = -1; what < 4; what++) {
            int due = best == null ? Due.NONE : best[what < 0 ? 4 : what];
            Due.due("bestPlan of " + one + " in scene " + scene + ", " + what, x.bestPlan(one, 1 - one, what), due);
        }
    }

    /** "not to MEET is as if they met at BORDER; of several the least LANE" */
    private static void holdDone(int scene, int one) {
        int lane = -1;
        int best = 0;
        for (int i = 0; i < 6; i++) {
            int worst = -1;
            for (int j = 0; j < 6; j++) {
                LakeSwimmers x = make(scene);
                Due.planAll(x, one, i);
                Due.planAll(x, 1 - one, j);
                int place = place(x) < 0 ? x.count(2) : place(x);
                worst = worst < 0 || better(one, worst, place) ? place : worst;
            }
            if (lane < 0 || better(one, worst, best)) {
                lane = i;
                best = worst;
            }
        }
        LakeSwimmers x = make(scene);
        Due.due("hold of " + one + " in scene " + scene, x.hold(one, 1 - one, 0), lane);
        Due.due("its worst", x.hold(one, 1 - one, 1), best);
    }

    /** "the WIND (-3 to 3) by which they would MEET where it is best for the one; of several the least" */
    private static void askDone(int scene, int one) {
        int due = Due.NONE;
        int best = 0;
        for (int wind = -3; wind <= 3; wind++) {
            LakeSwimmers x = make(scene);
            x.set(0, wind);
            int place = place(x);
            if (place >= 0 && (due == Due.NONE || better(one, place, best))) {
                due = wind;
                best = place;
            }
        }
        Due.due("ask of " + one + " in scene " + scene, make(scene).ask(one, 1 - one), due);
    }

    /** "the least SIGHT (0 to 200) by which they MEET" */
    private static void leastSightDone(int scene, int one) {
        int due = Due.NONE;
        for (int sight = 200; sight >= 0; sight--) {
            LakeSwimmers x = make(scene);
            x.set(1, sight);
            due = place(x) >= 0 ? sight : due;
        }
        Due.due("leastSight of " + one + " in scene " + scene, make(scene).leastSight(one, 1 - one), due);
    }

    /** "how much SKILL (0 to 30) the one must have at least so that they MEET, .. a place or better" */
    private static void trainingDone(int scene, int one) {
        int[] places = new int[31];
        for (int skill = 0; skill <= 30; skill++) {
            LakeSwimmers x = make(scene);
            x.train(one, skill);
            places[skill] = place(x);
        }
        for (int at = 0; at <= 1200; at += 10) {
            int due = Due.NONE;
            for (int skill = 30; skill >= 0; skill--) {
                due = places[skill] >= 0 && !better(one, at, places[skill]) ? skill : due;
            }
            Due.due("training of " + one + " in scene " + scene + " for " + at,
                make(scene).training(one, 1 - one, at), due);
        }
    }

    /** "how many pairs of PLANS in one LANE alone make them MEET in a told MINUTE, at a told place; the first" */
    private static void diaryDone(int scene, int one) {
        for (int asked = 0; asked < 6; asked++) {
            int minute = -1;
            int place = -1;
            int pairs = 0;
            int first = Due.NONE;
            for (int pair = 0; pair < 36; pair++) {
                LakeSwimmers x = make(scene);
                Due.planAll(x, one, pair / 6);
                Due.planAll(x, 1 - one, pair % 6);
                if (minute < 0 && pair / 6 >= asked && place(x) >= 0) {
                    minute = x.meet(0, 1, 0);
                    place = place(x);
                    pair = -1;
                } else if (minute >= 0 && x.meet(0, 1, 0) == minute && place(x) == place) {
                    first = pairs == 0 ? 10 * (pair / 6) + pair % 6 : first;
                    pairs++;
                }
            }
            if (minute >= 0) {
                LakeSwimmers x = make(scene);
                String call = "diary of " + one + " in scene " + scene + " at " + minute + ", " + place;
                Due.due(call, x.diary(one, 1 - one, minute, place, 0), pairs);
                Due.due(call + ", the first", x.diary(one, 1 - one, minute, place, 1), first);
                Due.due(call + ", either order", x.diary(1 - one, one, minute, place, 0), pairs);
            }
        }
    }

    /** "if each were of the other's SIDE (all else as it is), together, less 1200" */
    private static void fairDone(int scene, int one) {
        LakeSwimmers x = make(scene);
        LakeSwimmers so = make(scene);
        // Each comes once more, on the other side, as 3 and 2.
        for (int i = 1; i >= 0; i--) {
            int n = so.swimmer(10 * so.ofSwimmer(i, 0) + so.ofSwimmer(i, 1), 1 - i);
            so.train(n, so.ofSwimmer(i, 3));
            for (int part = 0; part < 4; part++) {
                so.plan(n, part, so.ofSwimmer(i, 5 + part));
            }
        }
        int is = place(x);
        int other = so.meet(2, 3, 1);
        int due = is < 0 || other < 0 ? Due.NONE : is + other - 1200;
        Due.due("fair of " + one + " in scene " + scene, x.fair(one, 1 - one), due);
    }

    // ---- at the ends

    private static LakeSwimmers two(int km, int other) {
        LakeSwimmers x = new LakeSwimmers();
        x.swimmer(km, 0);
        x.swimmer(other, 1);
        return x;
    }

    private static void best(String call, LakeSwimmers x, int one, int[] lanes) {
        for (int i = 0; i < 4; i++) {
            Due.due("the best plan " + call + ", number " + i, x.bestPlan(one, 1 - one, i), lanes[i]);
        }
    }

    /** "of several the first as a row": 0 0 0 0 of all, 5 5 5 5 of one alone */
    private static void bestPlanOfSeveral() {
        LakeSwimmers x = two(50, 50);
        best("of all alike", x, 0, new int[] {0, 0, 0, 0});
        best("of all alike, side 1", x, 1, new int[] {0, 0, 0, 0});
        // A drifter, who is met behind 30 minutes: the fourth lane is the other one's then.
        x.become(0, 30);
        x.train(1, 0);
        x.current(5, 9);
        Due.planAll(x, 1, 5);
        best("with the current", x, 0, new int[] {5, 5, 5, 5});
        x.plan(1, 3, 4);
        best("with the current, but for the end", x, 0, new int[] {5, 5, 5, 4});
        x.plan(1, 3, 0);
        best("with the current, but for an end in 0", x, 0, new int[] {5, 5, 5, 0});
        x.become(0, 50);
        x.set(1, 0);
        Due.read(x, 0, "30");
        Due.due("the place at the shore", x.bestPlan(0, 1, -1), 1200);
        Due.read(x, 0, "0-30");
        Due.due("the place at the other shore", x.bestPlan(1, 0, -1), 0);
    }

    /** HOLD, with BORDER at either shore */
    private static void holdAtTheShores() {
        LakeSwimmers x = two(50, 50);
        x.current(5, 9);
        x.current(4, -9);
        x.set(2, 1200);
        Due.due("the meeting is the worst: lane 5", x.hold(0, 1, 0), 5);
        Due.due("its place", x.hold(0, 1, 1), 780);
        Due.due("not to meet is the worst, of side 1", x.hold(1, 0, 0), 0);
        Due.due("at BORDER", x.hold(1, 0, 1), 1200);
        x.set(2, 0);
        Due.due("not to meet is the worst", x.hold(0, 1, 0), 0);
        Due.due("at BORDER", x.hold(0, 1, 1), 0);
        Due.due("the meeting is the worst, of side 1: lane 4", x.hold(1, 0, 0), 4);
        Due.due("its place", x.hold(1, 0, 1), 420);
        x.set(2, 600);
        Due.due("of several the least", x.hold(0, 1, 0), 0);
        Due.due("at BORDER, or there", x.hold(0, 1, 1), 600);
        x.set(2, 601);
        Due.due("one yard more", x.hold(0, 1, 0), 5);
        Due.due("of side 1, one yard more", x.hold(1, 0, 0), 0);
        x.set(2, 599);
        Due.due("one yard less", x.hold(0, 1, 0), 0);
        Due.due("of side 1, one yard less", x.hold(1, 0, 0), 4);
    }

    /** WIND -3 alone, 3 alone */
    private static void askAtTheEnds() {
        LakeSwimmers x = two(30, 30);
        for (int i = 0; i < 3; i++) {
            x.plan(0, i, 1);
            x.plan(1, i, 2);
        }
        Due.due("adrift", x.ask(0, 1), Due.NONE);
        Due.read(x, 0, "(w=3)*((l=1)*30-(l=2)*30)");
        Due.due("3 alone", x.ask(0, 1), 3);
        Due.due("3 alone, of side 1", x.ask(1, 0), 3);
        Due.due("as it is", x.meet(0, 1, 0), Due.NONE);
        Due.read(x, 0, "(w+3=0)*((l=1)*30-(l=2)*30)");
        Due.due("-3 alone", x.ask(0, 1), -3);
        Due.due("-3 alone, of side 1", x.ask(1, 0), -3);
        Due.read(x, 0, "((w>3)|(w<0-3))*((l=1)*30-(l=2)*30)");
        Due.due("4 and -4 aren't asked for", x.ask(0, 1), Due.NONE);
        Due.read(x, 0, "(w>0-2)*((l=1)*30-(l=2)*30)");
        Due.due("of several the least", x.ask(1, 0), -1);
        Due.due("WIND stays", x.count(5), 0);
    }

    /** "the least SIGHT (0 to 200)": 0, 2, 200; 201 is too much, and so is 1200 */
    private static void leastSights() {
        int[][] of = {{12, 30, 15, 0}, {47, 30, 16, 2}, {40, 30, 13, 200}, {49, 60, 8, Due.NONE}, {30, 30, 0, Due.NONE}};
        for (int[] o : of) {
            LakeSwimmers x = two(o[0], o[1]);
            x.train(0, o[2]);
            Due.due("leastSight of " + o[0] + ", " + o[1], x.leastSight(0, 1), o[3]);
            Due.due("the other way round", x.leastSight(1, 0), o[3]);
            if (o[3] >= 0) {
                x.set(1, o[3]);
                Due.due("they meet by it", x.meet(0, 1, 0), 59);
                Due.due("not by one yard less", x.set(1, o[3] - 1) >= 0 ? x.meet(0, 1, 0) : Due.NONE, Due.NONE);
            }
        }
        LakeSwimmers x = two(49, 60);
        x.train(0, 8);
        Due.due("201 yards", x.where(1, 60) - x.where(0, 60), 201);
    }

    /** "SEND: the SWIMMER of that SIDE .. of several the least number", of eight */
    private static void sendOfEight() {
        for (int best = 1; best < 8; best++) {
            LakeSwimmers x = two(50, 50);
            for (int i = 2; i < 8; i++) {
                x.swimmer(50, 0);
            }
            Due.due("of seven alike", x.send(1), 0);
            if (best > 1) {
                x.train(best, 20);
                Due.due("the best", x.send(1), best);
            }
            Due.due("one alone", x.send(0), 1);
            Due.due("against the eighth", x.send(7), 1);
            Due.due("a ninth", x.send(8), Due.BEYOND);
        }
        LakeSwimmers y = two(50, 50);
        for (int i = 2; i < 8; i++) {
            y.swimmer(50, 1);
            y.train(i, 9 + i % 2);
        }
        Due.due("of side 1", y.send(0), 1);
        y.train(7, 12);
        Due.due("the eighth", y.send(0), 7);
        y.train(6, 12);
        Due.due("of two the least number", y.send(0), 6);
        Due.planAll(y, 0, 1);
        Due.due("nobody", y.send(0), Due.NONE);
    }

    /** MINUTE 59, place 0, place 1200; in all LANES, in one, in none */
    private static void diaryAtTheEnds() {
        LakeSwimmers x = two(10, 30);
        x.train(0, 11);
        x.set(1, 196);
        Due.due("minute 59", x.diary(0, 1, 59, 802, 0), 6);
        Due.due("the first", x.diary(0, 1, 59, 802, 1), 0);
        Due.due("minute 60", x.diary(0, 1, 60, 802, 0), Due.BEYOND);
        LakeSwimmers y = two(50, 50);
        y.set(1, 0);
        Due.read(y, 0, "30*(l=5)-30*(l=4)");
        Due.due("place 1200", y.diary(0, 1, 19, 1200, 0), 1);
        Due.due("in lane 5", y.diary(0, 1, 19, 1200, 1), 55);
        Due.due("place 0", y.diary(1, 0, 19, 0, 0), 1);
        Due.due("in lane 4", y.diary(1, 0, 19, 0, 1), 44);
        Due.due("in the others", y.diary(1, 0, 19, 600, 0), 4);
        Due.due("place 1201", y.diary(0, 1, 19, 1201, 0), Due.BEYOND);
        Due.due("place -1", y.diary(0, 1, 19, -1, 0), Due.BEYOND);
        Due.due("a minute beside it", y.diary(0, 1, 20, 600, 0), 0);
        Due.due("none to be first", y.diary(0, 1, 18, 600, 1), Due.NONE);
        Due.due("minute 0", y.diary(0, 1, 0, 600, 0), 0);
        Due.due("minute -1", y.diary(0, 1, -1, 600, 0), Due.BEYOND);
    }

    /** SKILL 0 and 30, place 0 and 1200; "NONE: 30 doesn't do" */
    private static void trainingAtTheEnds() {
        LakeSwimmers x = two(50, 50);
        x.set(1, 0);
        Due.due("0 does, for 400", x.training(0, 1, 400), 0);
        x.set(1, 200);
        int of30 = 730;
        Due.due("30 does", x.training(0, 1, of30), 30);
        Due.due("30 doesn't", x.training(0, 1, of30 + 1), Due.NONE);
        Due.due("of side 1, 30 does", x.training(1, 0, 1200 - of30), 30);
        Due.due("of side 1, 30 doesn't", x.training(1, 0, 1200 - of30 - 1), Due.NONE);
        Due.due("for 0", x.training(0, 1, 0), 0);
        Due.due("of side 1 for 1200", x.training(1, 0, 1200), 0);
        x.set(1, 0);
        Due.read(x, 0, "30");
        Due.due("for 1200, carried there", x.training(0, 1, 1200), 0);
        Due.read(x, 0, "0-30");
        Due.due("of side 1 for 0, carried there", x.training(1, 0, 0), 0);
        LakeSwimmers y = two(40, 30);
        y.set(1, 200);
        Due.due("13 meets by 200 yards", y.training(0, 1, 0), 13);
        y.set(1, 199);
        Due.due("14 by 199", y.training(0, 1, 0), 14);
        Due.due("SKILL stays", y.ofSwimmer(0, 3), 10);
    }

    /** From -1200 to 1200; each of the two misses each other by NONE */
    private static void fairAtTheEnds() {
        LakeSwimmers x = two(50, 30);
        x.set(1, 0);
        Due.read(x, 0, "30");
        Due.due("both at the shore of side 1", x.fair(0, 1), 1200);
        Due.read(x, 0, "0-30");
        Due.due("both at the shore of side 0", x.fair(0, 1), -1200);
        Due.due("either order", x.fair(1, 0), -1200);
        LakeSwimmers y = two(40, 30);
        y.train(0, 13);
        y.set(1, 200);
        Due.due("as it is, and so", y.fair(0, 1), 0);
        y.set(1, 199);
        Due.due("neither as it is, nor so", y.fair(0, 1), Due.NONE);
        y.set(1, 200);
        y.current(1, 1);
        y.plan(0, 0, 1);
        Due.due("as it is alone", y.meet(0, 1, 0), 59);
        Due.due("not so", y.fair(0, 1), Due.NONE);
        y.current(1, -1);
        Due.due("not as it is", y.meet(0, 1, 0), Due.NONE);
        Due.due("so alone", y.fair(0, 1), Due.NONE);
    }
}
