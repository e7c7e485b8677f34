/** Promises 15 to 18: swims, years. */
public final class SwimTest {
    public static void main(String[] args) {
        where();
        meet();
        meetInLanes();
        year();
        catchOfYear();
        loose();
        Due.finish("SwimTest");
    }

    /** Swimmers 0 of side 0 and 1 of side 1, who meet in minute 21, each 610 yards from the shore. */
    private static LakeSwimmers two() {
        LakeSwimmers x = new LakeSwimmers();
        x.swimmer(0, 0);
        x.swimmer(0, 1);
        return x;
    }

    private static void where() {
        LakeSwimmers x = two();
        Due.due("where(0, 0)", x.where(0, 0), 0);
        Due.due("where(1, 0)", x.where(1, 0), 1200);
        Due.due("where(0, 10)", x.where(0, 10), 292);
        Due.due("where(1, 10)", x.where(1, 10), 908);
        Due.due("where(0, 60)", x.where(0, 60), 1200);
        Due.due("where(1, 60)", x.where(1, 60), 0);
        x.current(1, 9);
        x.current(2, -9);
        x.plan(0, 1, 1);
        x.plan(1, 1, 2);
        Due.due("still where(0, 10)", x.where(0, 10), 292);
        Due.due("where(0, 11)", x.where(0, 11), 292 + 28 + 9);
        Due.due("where(1, 11)", x.where(1, 11), 908 - 28 - 9);
        Due.due("where(0, 20)", x.where(0, 20), 560 + 90);
        Due.due("where(0, 21)", x.where(0, 21), 650 + 25);
        x.plan(0, 3, 1);
        Due.due("where(0, 30)", x.where(0, 30), 802 + 90);
        Due.due("where(0, 31)", x.where(0, 31), 892 + 23 + 9);
        Due.due("where(0, 41) in the last lane", x.where(0, 41), 1200);
        x.swimmer(30, 0);
        x.current(0, -9);
        Due.due("held at the shore", x.where(2, 7), 0);
        x.plan(2, 1, 3);
        Due.due("from the shore on", x.where(2, 12), 10);
        Due.due("where(0, -1)", x.where(0, -1), Due.BEYOND);
        Due.due("where(0, 61)", x.where(0, 61), Due.BEYOND);
        Due.due("where(3, 0)", x.where(3, 0), Due.BEYOND);
    }

    private static void meet() {
        LakeSwimmers x = two();
        Due.due("the minute", x.meet(0, 1, 0), 21);
        Due.due("the place", x.meet(0, 1, 1), 600);
        Due.due("the lane", x.meet(0, 1, 2), 0);
        x.set(1, 30);
        Due.due("30 yards of sight", x.meet(0, 1, 0), 20);
        x.set(1, 29);
        Due.due("29 yards of sight", x.meet(1, 0, 0), 21);
        x.current(0, 9);
        Due.due("carried on", x.meet(0, 1, 1), 798);
        Due.due("either order", x.meet(1, 0, 1), 798);
        x.train(0, 11);
        x.current(0, 0);
        Due.due("the middle is cut", x.meet(0, 1, 1), (21 * 31 - 45 + 1200 - 21 * 30 + 45) / 2);
        Due.due("one twice", x.meet(0, 0, 0), Due.BEYOND);
        Due.due("what -1", x.meet(0, 1, -1), Due.BEYOND);
        Due.due("what 3", x.meet(0, 1, 3), Due.BEYOND);
        Due.due("nobody", x.meet(0, 2, 0), Due.BEYOND);
        Due.due("nobody", x.meet(-1, 1, 0), Due.BEYOND);
        x.swimmer(0, 0);
        Due.due("one side", x.meet(0, 2, 0), Due.BEYOND);
        Due.planAll(x, 0, 1);
        Due.due("they miss each other", x.meet(0, 1, 0), Due.NONE);
        Due.due("BEYOND ahead of NONE", x.meet(0, 1, 3), Due.BEYOND);
    }

    private static void meetInLanes() {
        LakeSwimmers x = two();
        for (int i = 0; i < 3; i++) {
            x.plan(0, i, 4);
            x.plan(1, i, 5);
        }
        x.plan(0, 3, 3);
        x.plan(1, 3, 3);
        Due.due("the minute of the last lane", x.meet(0, 1, 0), 30);
        Due.due("its lane", x.meet(0, 1, 2), 3);
        Due.due("the middle of two who have passed", x.meet(0, 1, 1), 600);
        x.plan(1, 2, 4);
        Due.due("the minute of the third lane", x.meet(0, 1, 0), 21);
        Due.due("its lane", x.meet(0, 1, 2), 4);
        x.become(0, 30);
        x.become(1, 30);
        x.set(1, 200);
        Due.due("drifters", x.meet(0, 1, 0), Due.NONE);
        x.become(0, 0);
        Due.due("a swimmer sees a drifter", x.meet(0, 1, 0), 31);
        Due.due("at the middle", x.meet(0, 1, 1), (848 + 1040) / 2);
    }

    private static void year() {
        LakeSwimmers x = two();
        x.current(0, 9);
        Due.due("year(1, 0)", x.year(1, 0), 798);
        Due.due("BORDER", x.count(2), 798);
        Due.due("YEAR", x.count(0), 1);
        Due.due("MET of 0", x.ofSwimmer(0, 4), 1);
        Due.due("MET of 1", x.ofSwimmer(1, 4), 1);
        Due.due("FISH of side 0", x.count(3), 66);
        Due.due("FISH of side 1", x.count(4), 34);
        Due.planAll(x, 0, 1);
        x.set(2, 120);
        Due.due("they miss each other", x.year(0, 1), 120);
        Due.due("MET stays", x.ofSwimmer(0, 4), 1);
        Due.due("YEAR goes on", x.count(0), 2);
        Due.due("FISH of side 0 then", x.count(3), 76);
        Due.due("FISH of side 1 then", x.count(4), 124);
        Due.due("one twice", x.year(0, 0), Due.BEYOND);
        Due.due("nobody", x.year(0, 2), Due.BEYOND);
        x.swimmer(0, 1);
        Due.due("one side", x.year(1, 2), Due.BEYOND);
        Due.due("YEAR stays", x.count(0), 2);
    }

    private static void catchOfYear() {
        LakeSwimmers x = two();
        x.current(0, 9);
        Due.read(x, 1, "y*10+w+(b=798)");
        x.set(0, 0);
        x.year(0, 1);
        Due.due("YEAR as it was, BORDER as it is", x.count(3), 1);
        x.year(0, 1);
        Due.due("FISH of side 0", x.count(3), 12);
        Due.due("FISH of side 1", x.count(4), 188);
        x.set(0, 2);
        x.set(2, 0);
        Due.planAll(x, 0, 1);
        x.year(0, 1);
        Due.due("WIND too", x.count(3), 34);
    }

    private static void loose() {
        LakeSwimmers x = two();
        Due.due("one twice", x.loose(0, 0), Due.BEYOND);
        Due.due("no draw then", x.count(10), 1);
        int z = 1;
        int fish = 0;
        for (int i = 0; i < 40; i++) {
            z = z * 1103515245 + 12345;
            int wind = (z >>> 8) % 7 - 3;
            int border = 600 + 2 * wind * 22;
            Due.due("loose year " + i, x.loose(0, 1), border);
            Due.due("its WIND stays", x.count(5), wind);
            Due.due("its z", x.count(10), z);
            fish += border / 12;
            Due.due("its FISH", x.count(3), fish);
        }
        Due.due("YEAR", x.count(0), 40);
        Due.due("MET", x.ofSwimmer(1, 4), 40);
        Due.due("nobody", x.loose(0, 2), Due.BEYOND);
    }
}
