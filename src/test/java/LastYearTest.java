/** YEAR 9999, and what comes near its bound by then: each in the 512 calls that an object is used for. */
public final class LastYearTest {
    private static final int CALLS = 512;

    private interface Call {
        int on(LakeSwimmers x);
    }

    public static void main(String[] args) {
        refused();
        theYearBefore();
        reached();
        fish();
        Due.finish("LastYearTest");
    }

    /** "STATE: YEAR is 9999", for year and loose, behind BEYOND; nothing else changes. */
    private static void refused() {
        last("year(0, 1)", x -> x.year(0, 1), Due.STATE);
        last("year(1, 0)", x -> x.year(1, 0), Due.STATE);
        last("loose(0, 1)", x -> x.loose(0, 1), Due.STATE);
        last("year(0, 0), BEYOND ahead of STATE", x -> x.year(0, 0), Due.BEYOND);
        last("loose(0, 2), BEYOND ahead of STATE", x -> x.loose(0, 2), Due.BEYOND);
        last("told(3) behind year", x -> x.year(0, 1) == Due.STATE ? x.told(3) : -1, 1);
        last("told(3) behind loose", x -> x.loose(0, 1) == Due.STATE ? x.told(3) : -1, 1);
        last("YEAR behind a refused year", x -> x.year(0, 1) == Due.STATE ? x.count(0) : -1, 9999);
        last("MET behind a refused year", x -> x.year(0, 1) == Due.STATE ? x.ofSwimmer(0, 4) : -1, 9999);
        last("FISH behind a refused year", x -> x.year(0, 1) == Due.STATE ? x.count(3) : -1, 9999 * 50);
        last("BORDER behind a refused year", x -> x.year(0, 1) == Due.STATE ? x.count(2) : -1, 600);
        last("no draw by a refused loose", x -> x.loose(0, 1) == Due.STATE ? x.count(10) : -1, 1);
        last("WIND behind a refused loose", x -> x.loose(0, 1) == Due.STATE ? x.count(5) : -1, 0);
        last("YEAR behind a refused loose", x -> x.loose(0, 1) == Due.STATE ? x.count(0) : -1, 9999);
        // "up to the first that year() would refuse (no ERROR then)"
        last("years(0)", x -> x.years(0), 0);
        last("told(3) behind years", x -> x.years(0) == 0 ? x.told(3) : -1, 0);
        last("YEAR behind years", x -> x.years(0) == 0 ? x.count(0) : -1, 9999);
        // No YEAR comes then: a number told for one isn't so.
        last("check(0, 1) of none", x -> x.check(0, 1), 0);
        last("check(0, 1) of one", x -> x.tell(600) == 1 ? x.check(0, 1) : -1, 1);
    }

    /** YEAR 9998 is the last one that goes by. */
    private static void theYearBefore() {
        Due.due("year(0, 1) in 9998", at(9998).year(0, 1), 600);
        // The first draw is 4310654: WIND is 2, a FLOW of 4 yards for 22 MINUTES.
        Due.due("loose(0, 1) in 9998", at(9998).loose(0, 1), 600 + 4 * 22);
        LakeSwimmers x = at(9998);
        x.year(0, 1);
        Due.due("year(0, 1) then", x.year(0, 1), Due.STATE);
        LakeSwimmers y = at(9998);
        Due.due("years(0) in 9998", y.years(0), 1);
        Due.due("YEAR then", y.count(0), 9999);
        LakeSwimmers z = at(9998);
        z.tell(600);
        Due.due("check(0, 1) in 9998", z.check(0, 1), 0);
    }

    /** "YEAR (0 to 9999)", "MET (9999 at most)". */
    private static void reached() {
        last("YEAR", x -> x.count(0), 9999);
        last("MET of 0", x -> x.ofSwimmer(0, 4), 9999);
        last("MET of 1", x -> x.ofSwimmer(1, 4), 9999);
        last("image() at the last YEAR", x -> x.image() == 1 ? x.restore() : -1, 9999);
    }

    /** "FISH (999999 at most)": the most that can be had by then is 999900, and none of it is cut. */
    private static void fish() {
        LakeSwimmers x = new LakeSwimmers();
        x.feed(0x303031L, 3);
        x.text(1);
        goOn(x, 9999, 2);
        Due.due("FISH of side 0, 100 of each YEAR", x.count(3), 999900);
        LakeSwimmers y = new LakeSwimmers();
        y.feed('0', 1);
        y.text(1);
        goOn(y, 9999, 2);
        Due.due("FISH of side 1, 100 of each YEAR", y.count(4), 999900);
        LakeSwimmers z = new LakeSwimmers();
        z.feed('0', 1);
        z.text(1);
        goOn(z, 9999, 2);
        Due.due("FISH of side 0, none of each YEAR", z.count(3), 0);
    }

    private static void last(String call, Call made, int due) {
        Due.due("in YEAR 9999: " + call, made.on(at(9999)), due);
    }

    private static LakeSwimmers at(int year) {
        LakeSwimmers x = new LakeSwimmers();
        goOn(x, year, 0);
        return x;
    }

    /** Two swimmers, and twenty YEARS of them a call; three calls more are left, less those made ahead. */
    private static void goOn(LakeSwimmers x, int year, int ahead) {
        x.swimmer(0, 0);
        x.swimmer(0, 1);
        x.sheet(0, 8, 40);
        x.put(0, 1, 1);
        for (int n = 2; n <= 16; n *= 2) {
            x.move(0, 0, 0, n, n);
        }
        x.move(0, 0, 0, 32, 8);
        int calls = ahead + 9;
        int left = year;
        while (left >= 20) {
            left -= x.years(0);
            calls++;
        }
        if (year == 9998) {
            // The 19th two is refused this time.
            x.put(0, 37, 0);
            calls++;
        }
        left -= x.years(0);
        calls++;
        Due.due("YEARS left ahead of " + year, left, 0);
        Due.due("calls are left in " + year, calls < CALLS ? 1 : 0, 1);
    }
}
