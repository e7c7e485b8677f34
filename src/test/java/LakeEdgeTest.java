/** Where the sentences of Terms 1 and of promises 1 to 11 and 15 to 18 have their edges: what is still taken. */
public final class LakeEdgeTest {
    private static final int LEAST = Integer.MIN_VALUE;
    private static final int MOST = Integer.MAX_VALUE;

    public static void main(String[] args) {
        currents();
        winds();
        sights();
        borders();
        kindsAndNumbers();
        eightSwimmers();
        skills();
        plans();
        under();
        paces();
        lanesOfMinutes();
        shores();
        shoresByBoth();
        sightOfSwim();
        passed();
        firstAndLastMinute();
        middles();
        bordersOfYears();
        met();
        caught();
        looseWinds();
        Due.finish("LakeEdgeTest");
    }

    private static LakeSwimmers two(int km, int other) {
        LakeSwimmers x = new LakeSwimmers();
        x.swimmer(km, 0);
        x.swimmer(other, 1);
        return x;
    }

    // ---- what is taken

    /** "LANES 0 to 5, each with a CURRENT (-9 to 9; 0 at first)" */
    private static void currents() {
        for (int lane = 0; lane < 6; lane++) {
            LakeSwimmers x = new LakeSwimmers();
            int was = 0;
            for (int v = -9; v <= 9; v++) {
                Due.due("current(" + lane + ", " + v + ")", x.current(lane, v), was);
                Due.due("flow(" + lane + ")", x.flow(lane), v);
                Due.due("of the lane beside it", x.flow((lane + 1) % 6), 0);
                was = v;
            }
            Due.due("10", x.current(lane, 10), Due.BEYOND);
            Due.due("-10", x.current(lane, -10), Due.BEYOND);
            Due.due("what it was", x.current(lane, 0), 9);
        }
    }

    /** "WIND (-3 to 3; 0 at first)" */
    private static void winds() {
        LakeSwimmers x = new LakeSwimmers();
        int was = 0;
        for (int v = -3; v <= 3; v++) {
            Due.due("set(0, " + v + ")", x.set(0, v), was);
            Due.due("count(5)", x.count(5), v);
            Due.due("flow(5)", x.flow(5), 2 * v);
            was = v;
        }
        Due.due("4", x.set(0, 4), Due.BEYOND);
        Due.due("-4", x.set(0, -4), Due.BEYOND);
        Due.due("what it was", x.set(0, 0), 3);
    }

    /** "SIGHT (0 to 200 yards; 10 at first)" */
    private static void sights() {
        LakeSwimmers x = new LakeSwimmers();
        int was = 10;
        for (int v = 0; v <= 200; v++) {
            Due.due("set(1, " + v + ")", x.set(1, v), was);
            was = v;
        }
        Due.due("201", x.set(1, 201), Due.BEYOND);
        Due.due("-1", x.set(1, -1), Due.BEYOND);
        Due.due("count(6)", x.count(6), 200);
    }

    /** "BORDER (yards from side 0; 600 at first)", 0 to 1200 */
    private static void borders() {
        LakeSwimmers x = new LakeSwimmers();
        int[] taken = {0, 1, 599, 600, 1199, 1200, 0};
        int was = 600;
        for (int v : taken) {
            Due.due("set(2, " + v + ")", x.set(2, v), was);
            Due.due("count(2)", x.count(2), v);
            was = v;
        }
        Due.due("1201", x.set(2, 1201), Due.BEYOND);
        Due.due("-1", x.set(2, -1), Due.BEYOND);
        Due.due("count(2)", x.count(2), 0);
    }

    /** "of KINDS: 0 .. 6; each with a number m (0 to 9), of a SIDE"; "km: 10 times the KIND, and m" */
    private static void kindsAndNumbers() {
        for (int km = 0; km <= 69; km++) {
            LakeSwimmers x = new LakeSwimmers();
            Due.due("swimmer(" + km + ", 0)", x.swimmer(km, 0), 0);
            Due.due("swimmer(" + km + ", 1)", x.swimmer(km, 1), 1);
            Due.due("become(2, " + km + ")", x.become(2, km), Due.BEYOND);
            x.swimmer(69 - km, 1);
            Due.due("become(2, " + km + ")", x.become(2, km), (69 - km) / 10);
            for (int i = 0; i < 3; i++) {
                Due.due("KIND of " + km, x.ofSwimmer(i, 0), km / 10);
                Due.due("m of " + km, x.ofSwimmer(i, 1), km % 10);
                Due.due("SIDE of " + i, x.ofSwimmer(i, 2), i == 0 ? 0 : 1);
                Due.due("m of " + km + " as a SWIMMER", x.as(i, 0), km % 10);
            }
        }
        int[] beyond = {-1, 70, LEAST, MOST};
        for (int km : beyond) {
            Due.due("swimmer(" + km + ", 0)", new LakeSwimmers().swimmer(km, 0), Due.BEYOND);
        }
    }

    /** "SWIMMERS 0, 1, .. (at most 8)"; "SKILL (10 at first)", "PLAN (0 0 0 0 at first)", "MET (0 at first)" */
    private static void eightSwimmers() {
        LakeSwimmers x = new LakeSwimmers();
        for (int i = 0; i < 8; i++) {
            Due.due("nobody yet", x.ofSwimmer(i, 0), Due.BEYOND);
            Due.due("swimmer " + i, x.swimmer(10 * (i % 7) + i, i / 4), i);
            Due.due("count(1)", x.count(1), i + 1);
        }
        Due.due("a ninth", x.swimmer(0, 0), Due.FULL);
        for (int i = 0; i < 8; i++) {
            int[] first = {i % 7, i, i / 4, 10, 0, 0, 0, 0, 0};
            for (int what = 0; what < 9; what++) {
                Due.due("ofSwimmer(" + i + ", " + what + ")", x.ofSwimmer(i, what), first[what]);
            }
        }
        Due.due("the eighth trains", x.train(7, 1), 10);
        Due.due("the eighth plans", x.plan(7, 3, 5), 0);
        Due.due("the eighth meets the first", x.meet(7, 0, 0), x.meet(0, 7, 0));
        Due.due("count(1)", x.count(1), 8);
    }

    /** "SKILL (0 to 30; 10 at first)" */
    private static void skills() {
        LakeSwimmers x = two(0, 0);
        int was = 10;
        for (int v = 0; v <= 30; v++) {
            Due.due("train(1, " + v + ")", x.train(1, v), was);
            Due.due("its pace", x.pace(1, 0), 20 + v);
            was = v;
        }
        Due.due("31", x.train(1, 31), Due.BEYOND);
        Due.due("-1", x.train(1, -1), Due.BEYOND);
        Due.due("it stays", x.ofSwimmer(1, 3), 30);
        Due.due("the other one's too", x.ofSwimmer(0, 3), 10);
    }

    /** "a PLAN: four LANES"; "A number (0 to 3) of a PLAN becomes a LANE: what it was" */
    private static void plans() {
        LakeSwimmers x = two(0, 0);
        for (int i = 0; i < 4; i++) {
            int was = 0;
            for (int n = 0; n < 6; n++) {
                int lane = (n + i) % 6;
                Due.due("plan(1, " + i + ", " + lane + ")", x.plan(1, i, lane), was);
                was = lane;
            }
        }
        for (int i = 0; i < 4; i++) {
            Due.due("number " + i, x.ofSwimmer(1, 5 + i), (5 + i) % 6);
            Due.due("the other one's", x.ofSwimmer(0, 5 + i), 0);
        }
    }

    /** "KIND: it isn't of that KIND, nor of one under it": 4 under 1, 5 under 2, 6 under 3, all under 0 */
    private static void under() {
        int[] above = {0, 0, 0, 0, 1, 2, 3};
        for (int km = 0; km <= 69; km++) {
            LakeSwimmers x = two(km, 0);
            for (int kind = 0; kind < 7; kind++) {
                boolean is = kind == 0 || kind == km / 10 || kind == above[km / 10];
                Due.due(km + " as " + kind, x.as(0, kind), is ? km % 10 : Due.KIND);
            }
        }
    }

    // ---- PACE, LANE, places

    /** "as long as t is below m", "while t is 3 or less", "if t by 10 leaves m", "5 at least", MINUTE 0 to 59 */
    private static void paces() {
        int[] skills = {0, 1, 10, 29, 30};
        for (int km = 0; km <= 69; km++) {
            for (int skill : skills) {
                LakeSwimmers x = two(km, 0);
                x.train(0, skill);
                for (int t = 0; t < 60; t++) {
                    Due.due("pace of " + km + " with " + skill + " in " + t, x.pace(0, t),
                        paceDue(km / 10, km % 10, skill, t));
                }
            }
        }
    }

    private static int paceDue(int kind, int m, int skill, int t) {
        int plain = 20 + skill - t / 4;
        if (kind == 1 || kind == 4) {
            if (kind == 4 && (t == 0 || t == 1 || t == 2 || t == 3)) {
                return 0;
            }
            return t < m ? 20 + plain : plain / 2;
        }
        if (kind == 3 || kind == 6) {
            boolean cramps = t == m || t == m + 10 || t == m + 20 || t == m + 30 || t == m + 40 || t == m + 50;
            return kind == 6 && cramps ? 0 : 5;
        }
        return kind == 0 ? plain : kind == 2 ? plain + m : 20 + skill + m;
    }

    /** "the PLAN's number t by 10 (the last one from 30 on)", MINUTES 0 to 59, behind 0 to 60 of them */
    private static void lanesOfMinutes() {
        int[] flows = {1, 2, 4, -3};
        LakeSwimmers x = two(30, 30);
        for (int i = 0; i < 4; i++) {
            x.current(i + 1, flows[i]);
            x.plan(0, i, i + 1);
            x.plan(1, i, i + 1);
        }
        int low = 0;
        int high = 1200;
        for (int n = 0; n <= 60; n++) {
            Due.due("where(0, " + n + ")", x.where(0, n), low);
            Due.due("where(1, " + n + ")", x.where(1, n), high);
            int flow = n < 10 ? 1 : n < 20 ? 2 : n < 30 ? 4 : -3;
            low += 5 + flow;
            high += flow - 5;
        }
        Due.due("where(0, 61)", x.where(0, 61), Due.BEYOND);
        Due.due("where(0, -1)", x.where(0, -1), Due.BEYOND);
    }

    /** "0 to 1200 always", "if nobody is met" */
    private static void shores() {
        LakeSwimmers x = two(50, 50);
        for (int n = 0; n <= 60; n++) {
            Due.due("where(0, " + n + ")", x.where(0, n), Math.min(1200, 30 * n));
            Due.due("where(1, " + n + ")", x.where(1, n), Math.max(0, 1200 - 30 * n));
        }
        // 29 yards a minute: at 1189 and 11, then at the shores.
        x.train(0, 9);
        x.train(1, 9);
        Due.due("1189", x.where(0, 41), 1189);
        Due.due("at the shore of side 1", x.where(0, 42), 1200);
        Due.due("11", x.where(1, 41), 11);
        Due.due("at the shore of side 0", x.where(1, 42), 0);
        Due.read(x, 0, "0-30");
        Due.due("carried back, no further than the shore", x.where(0, 60), 0);
        Due.due("59 yards a minute", x.where(1, 20), 20);
        Due.due("no further", x.where(1, 21), 0);
        Due.read(x, 0, "30");
        Due.due("of side 1, carried back", x.where(1, 60), 1200);
        Due.due("59 yards a minute", x.where(0, 20), 1180);
        Due.due("no further", x.where(0, 21), 1200);
        // Held behind each minute, so that it starts again from the shore.
        Due.read(x, 0, "30*(l=1)-30");
        x.plan(0, 1, 1);
        Due.due("at the shore for 10", x.where(0, 10), 0);
        Due.due("and on from there", x.where(0, 20), 290);
    }

    /** "yards more by both", "less by PACE, more by FLOW": held when both have been added, not between them */
    private static void shoresByBoth() {
        int[] flows = {-9, -1, 0, 1, 9};
        for (int flow : flows) {
            LakeSwimmers x = two(50, 50);
            x.current(0, flow);
            for (int n = 0; n <= 60; n++) {
                Due.due("where(0, " + n + ") by " + flow, x.where(0, n), Math.min(1200, (30 + flow) * n));
                Due.due("where(1, " + n + ") by " + flow, x.where(1, n), Math.max(0, 1200 - (30 - flow) * n));
            }
        }
        LakeSwimmers y = two(50, 50);
        y.current(0, -9);
        Due.due("1197", y.where(0, 57), 1197);
        Due.due("1197 and 30 less 9", y.where(0, 58), 1200);
        y.current(0, 9);
        Due.due("3", y.where(1, 57), 3);
        Due.due("3 less 30 and 9", y.where(1, 58), 0);
    }

    // ---- SWIM

    /** "the one of side 1 is no more than SIGHT beyond the one of side 0": 60 yards less a minute here */
    private static void sightOfSwim() {
        LakeSwimmers x = two(50, 50);
        int[][] due = {{0, 19}, {1, 19}, {59, 19}, {60, 18}, {61, 18}, {119, 18}, {120, 17}, {180, 16}, {199, 16},
            {200, 16}};
        for (int[] d : due) {
            x.set(1, d[0]);
            Due.due("with SIGHT " + d[0], x.meet(0, 1, 0), d[1]);
            Due.due("with SIGHT " + d[0] + ", either order", x.meet(1, 0, 0), d[1]);
        }
        // 59 yards: 20 yards apart, then passed.
        x.train(1, 9);
        x.set(1, 20);
        Due.due("20 yards apart", x.meet(0, 1, 0), 19);
        x.set(1, 19);
        Due.due("passed", x.meet(0, 1, 0), 20);
    }

    /** "If they are in one LANE then", "(or has been passed by it)" */
    private static void passed() {
        LakeSwimmers x = two(50, 50);
        x.set(1, 0);
        for (int i = 0; i < 3; i++) {
            x.plan(0, i, 1);
        }
        Due.due("passed long ago", x.meet(0, 1, 0), 30);
        Due.due("the place", x.meet(0, 1, 1), (930 + 270) / 2);
        Due.due("the lane", x.meet(0, 1, 2), 0);
        x.plan(0, 2, 0);
        Due.due("in the third lane", x.meet(0, 1, 0), 20);
        x.plan(1, 1, 1);
        Due.due("in the second", x.meet(0, 1, 0), 19);
        Due.due("which is", x.meet(0, 1, 2), 1);
        x.plan(0, 1, 5);
        x.plan(1, 1, 5);
        Due.due("in lane 5", x.meet(0, 1, 2), 5);
        x.plan(0, 3, 4);
        x.plan(0, 2, 4);
        x.plan(0, 1, 4);
        Due.due("never in one lane", x.meet(0, 1, 0), Due.NONE);
        x.set(1, 200);
        Due.due("whatever the SIGHT", x.meet(0, 1, 0), Due.NONE);
    }

    /** "In each MINUTE t, 0 to 59"; "Otherwise they miss each other in the 60" */
    private static void firstAndLastMinute() {
        // The fastest two, by the widest sight: 140 yards, 139 from the fourth minute on.
        LakeSwimmers x = two(19, 19);
        x.train(0, 30);
        x.train(1, 30);
        x.set(1, 200);
        Due.due("at 1200 less 4 * 140 + 4 * 138", x.meet(0, 1, 0), 7);
        LakeSwimmers y = two(10, 30);
        y.train(0, 11);
        y.set(1, 196);
        Due.due("196 yards in the last minute", y.meet(0, 1, 0), 59);
        Due.due("its place", y.meet(0, 1, 1), 802);
        Due.due("its year", y.year(0, 1), 802);
        y.set(1, 195);
        Due.due("195 yards", y.meet(0, 1, 0), Due.NONE);
        Due.due("no place", y.meet(0, 1, 1), Due.NONE);
        y.set(2, 1);
        Due.due("a year without a meeting", y.year(0, 1), 1);
        Due.due("MET", y.ofSwimmer(0, 4), 1);
    }

    /** "at the middle of both (their sum by 2)", cut; at either shore */
    private static void middles() {
        LakeSwimmers x = two(50, 51);
        Due.due("600 and 580", x.meet(0, 1, 1), 590);
        x.become(1, 50);
        x.train(1, 9);
        x.set(1, 0);
        Due.due("630 and 591, cut", x.meet(0, 1, 1), 610);
        Due.read(x, 0, "30");
        x.set(1, 0);
        Due.due("at the shore of side 1", x.meet(0, 1, 1), 1200);
        Due.due("when", x.meet(0, 1, 0), 19);
        Due.due("a year at the shore", x.year(0, 1), 1200);
        Due.read(x, 0, "0-30");
        Due.due("at the shore of side 0", x.meet(0, 1, 1), 0);
        Due.due("when", x.meet(0, 1, 0), 20);
        Due.due("a year at the shore", x.year(0, 1), 0);
        Due.due("BORDER", x.count(2), 0);
    }

    // ---- YEARS

    /** "if they MEET, BORDER is where they do"; else it stays, up to 0 and 1200 */
    private static void bordersOfYears() {
        LakeSwimmers x = two(50, 50);
        x.plan(0, 0, 1);
        Due.planAll(x, 1, 2);
        int[] stays = {0, 1, 1199, 1200};
        for (int v : stays) {
            x.set(2, v);
            Due.due("missed at " + v, x.year(0, 1), v);
            Due.due("a loose year at " + v, x.loose(0, 1), v);
        }
        Due.due("MET", x.ofSwimmer(0, 4) + x.ofSwimmer(1, 4), 0);
        Due.due("YEAR", x.count(0), 8);
        Due.planAll(x, 1, 0);
        x.set(0, 0);
        Due.due("met", x.year(0, 1), 600);
        Due.due("met loosely", x.loose(1, 0), x.count(2));
    }

    /** "MET of both is 1 more", of nobody else */
    private static void met() {
        LakeSwimmers x = two(50, 50);
        x.swimmer(50, 0);
        x.swimmer(50, 1);
        for (int i = 1; i <= 40; i++) {
            x.year(i % 2, 1 - i % 2);
            Due.due("MET of 0", x.ofSwimmer(0, 4), i);
            Due.due("MET of 1", x.ofSwimmer(1, 4), i);
            Due.due("MET of 2", x.ofSwimmer(2, 4), 0);
            Due.due("MET of 3", x.ofSwimmer(3, 4), 0);
            Due.due("YEAR", x.count(0), i);
        }
        x.become(0, 11);
        x.train(0, 5);
        Due.due("MET stays", x.ofSwimmer(0, 4), 40);
    }

    /** "FISH of both SIDES are more by CATCH", 0 to 100, by the BORDER that the YEAR has made */
    private static void caught() {
        int[] borders = {0, 11, 12, 599, 600, 1188, 1199, 1200};
        int[] due = {0, 0, 1, 49, 50, 99, 99, 100};
        for (int i = 0; i < borders.length; i++) {
            LakeSwimmers x = two(50, 50);
            Due.planAll(x, 0, 1);
            x.set(2, borders[i]);
            x.year(0, 1);
            Due.due("FISH of side 0 at " + borders[i], x.count(3), due[i]);
            Due.due("FISH of side 1 at " + borders[i], x.count(4), 100 - due[i]);
            Due.read(x, 1, i % 2 == 0 ? "101" : "0-1");
            x.year(0, 1);
            Due.due("held FISH of side 0", x.count(3), due[i] + (i % 2 == 0 ? 100 : 0));
            Due.due("held FISH of side 1", x.count(4), 100 - due[i] + (i % 2 == 0 ? 0 : 100));
        }
    }

    /** "WIND is a draw's rest by 7, less 3 (it stays so)": -3 and 3 too, for any z */
    private static void looseWinds() {
        int[] seeds = {LEAST, LEAST + 1, -1, 0, 1, MOST - 1, MOST};
        boolean[] seen = new boolean[7];
        for (int seed : seeds) {
            LakeSwimmers x = two(50, 50);
            x.seed(seed);
            int z = seed;
            for (int i = 0; i < 20; i++) {
                z = (int) (z * 1103515245L + 12345);
                int wind = (int) ((z & 0xFFFFFFFFL) / 256 % 7) - 3;
                seen[wind + 3] = true;
                Due.due("a loose year of " + seed, x.loose(0, 1), 600 + 2 * wind * 20);
                Due.due("its WIND", x.count(5), wind);
                Due.due("its z", x.count(10), z);
            }
            Due.due("WIND stays in a year", x.year(0, 1), x.count(2));
            Due.due("z stays in a year", x.count(10), z);
        }
        for (int i = 0; i < 7; i++) {
            Due.due("a WIND of " + (i - 3) + " was drawn", seen[i] ? 1 : 0, 1);
        }
    }
}
