import java.util.ArrayList;
import java.util.List;

/** Where the sentences of Terms 4 and of promises 27 to 40 have their edges: what is still taken. */
public final class ToldEdgeTest {
    private static final int LEAST = Integer.MIN_VALUE;
    private static final int MOST = Integer.MAX_VALUE;

    public static void main(String[] args) {
        seeds();
        voicesGoRound();
        traces();
        sheetsOfAllLengths();
        sheetsAnew();
        lowestBits();
        movesAtTheEnds();
        movesOntoThemselves();
        yearsOfFull();
        yearsUpToTheFirst();
        judgeToTheEnd();
        imageOfNothing();
        imageOfAll();
        imageAgain();
        fewerSwimmers();
        twentyWait();
        checkEachPlace();
        checkChangesNothing();
        counts();
        toldCounts();
        Due.finish("ToldEdgeTest");
    }

    private static LakeSwimmers two() {
        LakeSwimmers x = new LakeSwimmers();
        x.swimmer(50, 0);
        x.swimmer(50, 1);
        return x;
    }

    private static int errors(LakeSwimmers x) {
        return x.told(1) + x.told(2) + x.told(3) + x.told(4) + x.told(5);
    }

    // ---- draws, voices

    /** "z becomes v: what it was (any number)" */
    private static void seeds() {
        LakeSwimmers x = two();
        int[] given = {0, -1, LEAST, MOST, Due.LOW, Due.BEYOND, Due.KIND, 1};
        int was = 1;
        for (int v : given) {
            Due.due("seed(" + v + ")", x.seed(v), was);
            Due.due("count(10)", x.count(10), v);
            was = v;
        }
        Due.due("no ERROR", errors(x), 0);
    }

    /** "with a number x (ints that go round); n is the number, m as told": numbers 0 and 7, m 0 and 9 */
    private static void voicesGoRound() {
        int[] given = {LEAST, LEAST + 1, -1, 0, 1, MOST - 1, MOST, 1 << 30, -(1 << 30), 715827883};
        for (int km = 0; km <= 69; km++) {
            for (int n = 0; n <= 7; n += 7) {
                LakeSwimmers x = new LakeSwimmers();
                for (int i = 0; i < 8; i++) {
                    x.swimmer(69 - km, i % 2);
                }
                x.become(n, km);
                for (int v : given) {
                    String call = " of " + km + ", number " + n + ", with " + v;
                    Due.due("swims" + call, x.voice(n, 0, v), swims(km, n, v));
                    Due.due("breathes" + call, x.voice(n, 1, v), breathes(km, n, v));
                    Due.due("tires" + call, x.voice(n, 2, v), tires(km, n, v));
                    Due.due("tells" + call, x.voice(n, 3, v), tells(km, n, v));
                }
                Due.due("no ERROR", errors(x), 0);
            }
        }
    }

    private static int swims(int km, int n, int x) {
        return km / 10 == 2 || km / 10 == 5 ? (x + n) * 3 : x + n;
    }

    private static int breathes(int km, int n, int x) {
        switch (km / 10) {
            case 1: return swims(km, n, x) * 2 - tires(km, n, 1);
            case 4: return swims(km, n, x + 1) * 2 - tires(km, n, 1);
            default: return swims(km, n, x) * 2;
        }
    }

    private static int tires(int km, int n, int x) {
        int plain = x - km % 10;
        switch (km / 10) {
            case 3: return -plain;
            case 6: return -plain ^ n;
            default: return plain;
        }
    }

    private static int tells(int km, int n, int x) {
        int plain = breathes(km, n, x) ^ tires(km, n, x);
        switch (km / 10) {
            case 5: return plain - swims(km, n, 2);
            case 6: return breathes(km, n, x) - plain;
            default: return plain;
        }
    }

    /** "THE TRACE: .. of the latest voice(), .. the first 40"; "NONE: there is none such" */
    private static void traces() {
        int[] longest = {4, 6, 5, 5, 7, 8, 9};
        for (int kind = 0; kind < 7; kind++) {
            LakeSwimmers x = two();
            Due.due("none ahead of a voice", x.trace(0), Due.NONE);
            Due.due("none", x.count(9), 0);
            x.become(1, 10 * kind + 3);
            x.voice(1, 3, 5);
            Due.due("bodies of KIND " + kind, x.count(9), longest[kind]);
            Due.due("ahead of the first", x.trace(-1), Due.NONE);
            Due.due("the first", x.trace(0), kind == 5 ? 60 : kind == 6 ? 71 : 13);
            Due.due("the last one is there", x.trace(longest[kind] - 1) >= 10 ? 1 : 0, 1);
            Due.due("behind the last", x.trace(longest[kind]), Due.NONE);
            Due.due("the 40th", x.trace(39), Due.NONE);
            Due.due("the 41st", x.trace(40), Due.NONE);
            x.voice(1, 4, 5);
            x.voice(2, 0, 5);
            Due.due("refused ones leave it", x.count(9), longest[kind]);
            x.voice(1, 0, 5);
            Due.due("the latest", x.count(9), kind == 2 || kind == 5 ? 2 : 1);
            Due.due("nothing of the one ahead", x.trace(x.count(9)), Due.NONE);
        }
    }

    // ---- sheets

    /** "SHEETS 0 .. 3 are rows of 8, 16, 32 bits, at most 40 numbers, or missing (as at first)" */
    private static void sheetsOfAllLengths() {
        for (int sheet = 0; sheet < 4; sheet++) {
            for (int bits = 8; bits <= 32; bits *= 2) {
                LakeSwimmers x = two();
                Due.due("missing at first", x.judge(sheet, 0), Due.NONE);
                for (int n = 0; n <= 40; n++) {
                    Due.due("sheet(" + sheet + ", " + bits + ", " + n + ")", x.sheet(sheet, bits, n), 1);
                    Due.due("behind its last", x.put(sheet, n, 0), Due.BEYOND);
                    Due.due("ahead of its first", x.put(sheet, -1, 0), Due.BEYOND);
                    Due.due("its first", x.put(sheet, 0, 0), n == 0 ? Due.BEYOND : 1);
                    Due.due("its last", x.put(sheet, n - 1, 0), n == 0 ? Due.BEYOND : 1);
                    Due.due("the one beside it is missing", x.put((sheet + 1) % 4, 0, 0), Due.NONE);
                }
                Due.due("41", x.sheet(sheet, bits, 41), Due.BEYOND);
                Due.due("-1", x.sheet(sheet, bits, -1), Due.STATE);
                Due.due("it still has 40", x.put(sheet, 39, 0), 1);
            }
        }
    }

    /** "n numbers, all 0"; "0: it is missing, n doesn't matter" */
    private static void sheetsAnew() {
        int[] any = {LEAST, -1, 0, 1, 40, 41, MOST};
        for (int n : any) {
            LakeSwimmers x = two();
            Due.due("one that was missing is again", x.sheet(2, 0, n), 1);
            Due.due("it is missing", x.years(2), Due.NONE);
            x.sheet(2, 16, 40);
            Due.due("sheet(2, 0, " + n + ")", x.sheet(2, 0, n), 1);
            Due.due("it is missing", x.put(2, 0, 0), Due.NONE);
            Due.due("no ERROR but NONE twice", errors(x), 2);
        }
        LakeSwimmers x = two();
        Due.read(x, 0, "0-30");
        int[] bits = {8, 16, 32, 8};
        for (int b : bits) {
            x.sheet(1, b, 40);
            Due.due("all 0", x.judge(1, 0), 40);
            for (int i = 0; i < 40; i++) {
                x.put(1, i, 1);
            }
            Due.due("none of them 0", x.judge(1, 0), 0);
            x.put(1, 0, 0);
            Due.due("the first of them", x.judge(1, 0), 1);
        }
    }

    /** "Number i of a SHEET becomes v (its lowest bits)" */
    private static void lowestBits() {
        int[] zeroOf8 = {0, 256, -256, 65536, 1 << 16, 1 << 30, LEAST, 512, 0x12345600};
        int[] zeroOf16 = {0, 65536, -65536, 1 << 30, LEAST, 0x12340000};
        int[] notOf8 = {1, -1, 255, 257, MOST, 128, -128, 0x12345601};
        int[] notOf16 = {1, -1, 256, 65535, 65537, MOST, 32768, -32768, 128, 255};
        LakeSwimmers x = two();
        x.sheet(0, 8, 1);
        x.sheet(1, 16, 1);
        x.sheet(2, 32, 1);
        for (int v : zeroOf8) {
            x.put(0, 0, v);
            x.put(2, 0, v);
            Due.due(v + " in 8 bits", x.judge(0, 0), 1);
            Due.due(v + " in 32 bits", x.judge(2, 0), v == 0 ? 1 : 0);
        }
        for (int v : zeroOf16) {
            x.put(1, 0, v);
            Due.due(v + " in 16 bits", x.judge(1, 0), 1);
        }
        for (int v : notOf8) {
            x.put(0, 0, v);
            Due.due(v + " in 8 bits", x.judge(0, 0), 0);
        }
        for (int v : notOf16) {
            x.put(1, 0, v);
            Due.due(v + " in 16 bits", x.judge(1, 0), 0);
        }
        // 1200 yards, where the one of side 1 is at first: no 8 bits hold them.
        int[] with1200 = {1200, 1200 + 65536, 1200 - 65536, 1200 | LEAST};
        for (int v : with1200) {
            for (int sheet = 0; sheet < 3; sheet++) {
                x.put(sheet, 0, v);
                Due.due(v + " in " + (8 << sheet), x.judge(sheet, 1), sheet == 1 || v == 1200 && sheet == 2 ? 1 : 0);
            }
        }
        signs();
    }

    /** Rows of 8 bits hold -128 to 127, as Java's do; 16 bits hold every place. */
    private static void signs() {
        LakeSwimmers y = two();
        // 28 yards a minute: 112 behind 4, 140 behind 5.
        y.swimmer(58, 0);
        y.train(2, 0);
        for (int sheet = 0; sheet < 3; sheet++) {
            y.sheet(sheet, 8 << sheet, 6);
            for (int i = 0; i < 6; i++) {
                Due.due("put", y.put(sheet, i, 28 * i), 1);
            }
            Due.due("140 in " + (8 << sheet) + " bits", y.judge(sheet, 2), sheet == 0 ? 5 : 6);
        }
    }

    // ---- move

    /** "n numbers .. from number i on, .. from its number j on": all, one, none, up to the last */
    private static void movesAtTheEnds() {
        LakeSwimmers x = two();
        for (int bits = 8; bits <= 32; bits *= 2) {
            x.sheet(0, bits, 40);
            x.sheet(3, bits, 40);
            Due.due("all", x.move(0, 0, 3, 0, 40), 40);
            Due.due("one more", x.move(0, 0, 3, 0, 41), Due.BEYOND);
            Due.due("the last", x.move(0, 39, 3, 0, 1), 1);
            Due.due("onto the last", x.move(0, 0, 3, 39, 1), 1);
            Due.due("the last two, from the last on", x.move(0, 39, 3, 0, 2), Due.BEYOND);
            Due.due("onto the last two, from the last on", x.move(0, 0, 3, 39, 2), Due.BEYOND);
            Due.due("none behind the last", x.move(0, 40, 3, 40, 0), 0);
            Due.due("none from beyond", x.move(0, 41, 3, 0, 0), Due.BEYOND);
            Due.due("none to beyond", x.move(0, 0, 3, 41, 0), Due.BEYOND);
            Due.due("one behind the last", x.move(0, 40, 3, 0, 1), Due.BEYOND);
            Due.due("ints that would go round", x.move(0, MOST, 3, 0, 1), Due.BEYOND);
            Due.due("ints that would go round", x.move(0, 1, 3, 1, MOST), Due.BEYOND);
            Due.due("ints that would go round", x.move(0, LEAST, 3, LEAST, LEAST), Due.BEYOND);
            Due.due("ints that would go round", x.move(0, MOST, 3, MOST, 2), Due.BEYOND);
        }
        x.sheet(1, 8, 0);
        x.sheet(2, 8, 0);
        Due.due("none of none", x.move(1, 0, 2, 0, 0), 0);
        Due.due("one of none", x.move(1, 0, 2, 0, 1), Due.BEYOND);
        Due.due("none of itself", x.move(1, 0, 1, 0, 0), 0);
        Due.due("KIND, though both have none", x.move(1, 0, 0, 0, 0), Due.KIND);
    }

    /** "(or the same), .. as they all were": up and down by each distance, of all three widths */
    private static void movesOntoThemselves() {
        for (int bits = 8; bits <= 32; bits *= 2) {
            for (int by = 0; by <= 20; by++) {
                int n = 21 - by;
                LakeSwimmers x = two();
                x.become(0, 30);
                x.sheet(0, bits, 21);
                for (int i = 0; i < 21; i++) {
                    x.put(0, i, 5 * i);
                }
                Due.due("up by " + by, x.move(0, 0, 0, by, n), n);
                x.sheet(1, bits, 21);
                Due.due("what came", x.move(0, by, 1, 0, n), n);
                Due.due("as they all were", x.judge(1, 0), by == 0 ? 21 : Math.max(n, 1));
                Due.due("what stayed", x.judge(0, 0), by == 0 ? 21 : by);
                Due.due("down by " + by, x.move(0, by, 0, 0, n), n);
                Due.due("as they all were", x.judge(0, 0), by == 0 ? 21 : Math.max(n, by));
            }
        }
    }

    // ---- years, judge

    /** "twos of SWIMMERS, from number 0 on": none, one number, 40 */
    private static void yearsOfFull() {
        for (int n = 0; n <= 40; n++) {
            LakeSwimmers x = two();
            x.sheet(0, 8 << n % 3, n);
            for (int i = 1; i < n; i += 2) {
                x.put(0, i, 1);
            }
            Due.due("years of " + n, x.years(0), n / 2);
            Due.due("YEAR", x.count(0), n / 2);
            Due.due("MET", x.ofSwimmer(0, 4), n / 2);
            Due.due("FISH", x.count(3), 50 * (n / 2));
            Due.due("no ERROR", errors(x), 0);
        }
    }

    /** "up to the first that year() would refuse (no ERROR then)": wherever it stands */
    private static void yearsUpToTheFirst() {
        int[][] refused = {{0, 0}, {1, 1}, {-1, 1}, {1, -1}, {2, 0}, {0, 2}, {3, 1}, {0, 127}, {-128, 1}};
        for (int[] two : refused) {
            for (int at = 0; at < 5; at++) {
                LakeSwimmers x = two();
                x.swimmer(50, 0);
                x.sheet(3, 8, 10);
                for (int i = 0; i < 5; i++) {
                    x.put(3, 2 * i, i == at ? two[0] : 1);
                    x.put(3, 2 * i + 1, i == at ? two[1] : i % 2 * 2);
                }
                Due.due("years with " + two[0] + ", " + two[1] + " as number " + at, x.years(3), at);
                Due.due("YEAR", x.count(0), at);
                Due.due("MET of 0", x.ofSwimmer(0, 4), (at + 1) / 2);
                Due.due("MET of 2", x.ofSwimmer(2, 4), at / 2);
                Due.due("no ERROR", errors(x), 0);
            }
        }
    }

    /** "the first that isn't so; as many as there are: none": each place of 40 */
    private static void judgeToTheEnd() {
        for (int side = 0; side < 2; side++) {
            LakeSwimmers x = two();
            x.sheet(1, 16, 40);
            for (int i = 0; i < 40; i++) {
                x.put(1, i, x.where(side, i));
            }
            Due.due("all 40", x.judge(1, side), 40);
            for (int i = 39; i >= 0; i--) {
                x.put(1, i, x.where(side, i) + (i % 2 == 0 ? 1 : -1));
                Due.due("number " + i, x.judge(1, side), i);
            }
            x.sheet(1, 16, 0);
            Due.due("none of none", x.judge(1, side), 0);
            x.sheet(1, 16, 1);
            Due.due("one", x.judge(1, side), side == 0 ? 1 : 0);
        }
    }

    // ---- images

    /** "NONE: there is none"; an IMAGE of a new lake */
    private static void imageOfNothing() {
        LakeSwimmers x = new LakeSwimmers();
        Due.due("restore ahead", x.restore(), Due.NONE);
        Due.due("image", x.image(), 1);
        x.swimmer(50, 0);
        x.swimmer(50, 1);
        x.year(0, 1);
        x.current(3, 3);
        x.set(0, 1);
        x.set(1, 1);
        x.seed(5);
        x.tell(5);
        Due.read(x, 0, "7");
        Due.read(x, 1, "7");
        Due.feed(x, "7");
        Due.due("restore", x.restore(), 0);
        int[] first = {0, 0, 600, 0, 0, 0, 10, 0, 0, 0, 1};
        for (int what = 0; what <= 10; what++) {
            Due.due("count(" + what + ")", x.count(what), first[what]);
        }
        for (int lane = 0; lane < 6; lane++) {
            Due.due("flow(" + lane + ")", x.flow(lane), 0);
        }
        Due.due("no TEXT of FLOWS", x.law(0, 9, 3, 0), 15);
        Due.due("no TEXT of CATCH", x.law(1, 120, 0, 0), 10);
        Due.due("no SWIMMERS", x.ofSwimmer(0, 0), Due.BEYOND);
        Due.due("image again", x.image(), 2);
    }

    /** "All (but SHEETS, THE TRACE, what told() tells, and how often this was done) is kept" */
    private static void imageOfAll() {
        LakeSwimmers x = brimful();
        LakeSwimmers twin = brimful();
        Due.due("image", x.image(), 1);
        twin.image();
        x.sheet(0, 8, 2);
        x.voice(0, 3, 1);
        upset(x);
        int told = x.told(1);
        Due.due("restore", x.restore(), 1);
        List<Integer> is = all(x);
        Due.due("all is as it was", is.equals(all(twin)) ? 1 : 0, 1);
        LakeSwimmers y = brimful();
        y.image();
        y.sheet(0, 8, 2);
        y.voice(0, 3, 1);
        y.flow(9);
        y.restore();
        Due.due("the SHEET stays", y.put(0, 1, 1), 1);
        Due.due("no SHEET comes", y.put(1, 0, 1), Due.NONE);
        Due.due("THE TRACE stays", y.count(9), 4);
        Due.due("what is told stays", y.told(1), 1);
        Due.due("told of the other one", told, 0);
        Due.due("how often stays", y.image(), 2);
    }

    private static LakeSwimmers brimful() {
        LakeSwimmers x = new LakeSwimmers();
        for (int i = 0; i < 8; i++) {
            x.swimmer(10 * (i % 7) + 9 - i, i % 2);
            x.train(i, 30 - i);
            x.plan(i, i % 4, i % 6);
        }
        for (int lane = 0; lane < 6; lane++) {
            x.current(lane, 9 - 3 * lane);
        }
        Due.read(x, 0, "c+w*2+l");
        Due.read(x, 1, "b/9+y");
        x.set(0, -3);
        x.set(1, 200);
        x.year(0, 1);
        x.set(2, 1200);
        x.seed(-7);
        for (int i = 0; i < 20; i++) {
            x.tell(i < 10 ? 1200 : i);
        }
        Due.feed(x, "0000+0000+0000+0000+0000+0000+0000+0000+0000+00+c");
        x.feed('9', 1);
        x.text(1);
        Due.feed(x, "0000+0000+0000+0000+0000+0000+0000+0000+0000+00+c");
        x.feed('9' | 1 << 30, 1);
        return x;
    }

    private static void upset(LakeSwimmers x) {
        for (int i = 0; i < 8; i++) {
            x.become(i, 10 * ((i + 3) % 7) + i);
            x.train(i, i);
            for (int part = 0; part < 4; part++) {
                x.plan(i, part, (i + part + 1) % 6);
            }
        }
        for (int lane = 0; lane < 6; lane++) {
            x.current(lane, lane);
        }
        x.text(0);
        Due.read(x, 0, "9");
        Due.read(x, 1, "9");
        x.set(0, 3);
        x.set(1, 3);
        x.year(2, 3);
        x.loose(4, 5);
        x.set(2, 3);
        x.check(0, 1);
        x.tell(4);
        Due.feed(x, "w");
    }

    /** All that an IMAGE keeps, as it can be seen. */
    private static List<Integer> all(LakeSwimmers x) {
        List<Integer> seen = new ArrayList<>();
        for (int what = 0; what <= 10; what++) {
            seen.add(what == 9 ? 0 : x.count(what));
        }
        for (int i = 0; i < 8; i++) {
            seen.add(x.flow(i % 6));
            seen.add(x.law(0, i, 2, 3));
            seen.add(x.law(1, 50 * i, 2, 3));
            for (int what = 0; what <= 8; what++) {
                seen.add(x.ofSwimmer(i, what));
            }
            seen.add(x.where(i, 25));
        }
        seen.add(x.feed('1', 1));
        seen.add(x.text(0));
        seen.add(x.tell(0));
        for (int i = 0; i < 6; i++) {
            x.plan(0, i % 4, 0);
            x.plan(1, i % 4, 1);
        }
        seen.add(x.check(0, 1));
        seen.add(x.tell(1));
        return seen;
    }

    /** "in place of one ahead"; "which stays" */
    private static void imageAgain() {
        LakeSwimmers x = two();
        for (int i = 1; i <= 30; i++) {
            Due.due("image " + i, x.image(), i);
            x.year(0, 1);
            x.year(0, 1);
            Due.due("restore", x.restore(), i - 1);
            Due.due("it stays", x.restore(), i - 1);
            x.year(0, 1);
        }
        Due.due("YEAR", x.count(0), 30);
        Due.due("the last one stays", x.restore(), 29);
    }

    /** An IMAGE with fewer SWIMMERS, or with more, than there are */
    private static void fewerSwimmers() {
        for (int kept = 0; kept <= 8; kept++) {
            LakeSwimmers x = new LakeSwimmers();
            for (int i = 0; i < kept; i++) {
                x.swimmer(11, 0);
                x.train(i, i);
            }
            x.image();
            for (int i = kept; i < 8; i++) {
                x.swimmer(22, 1);
                x.train(i, 29);
                x.plan(i, 1, 5);
            }
            Due.due("restore", x.restore(), 0);
            Due.due("SWIMMERS", x.count(1), kept);
            Due.due("the first that isn't there", x.ofSwimmer(kept, 0), Due.BEYOND);
            for (int i = 0; i < 8; i++) {
                Due.due("one more", i < kept ? i : x.swimmer(33, 1), i);
                int[] of = {i < kept ? 1 : 3, i < kept ? 1 : 3, i < kept ? 0 : 1, i < kept ? i : 10, 0, 0, 0, 0, 0};
                for (int what = 0; what < 9; what++) {
                    Due.due(i + " of " + kept + " kept, " + what, x.ofSwimmer(i, what), of[what]);
                }
            }
            Due.due("a ninth", x.swimmer(0, 0), Due.FULL);
        }
    }

    // ---- tell, check, count, told

    /** "FULL: 20 wait"; any number waits */
    private static void twentyWait() {
        LakeSwimmers x = two();
        int[] any = {LEAST, MOST, Due.BEYOND, -1, 0, 1200};
        for (int i = 1; i <= 20; i++) {
            Due.due("tell as number " + i, x.tell(any[i % 6]), i);
            Due.due("count(8)", x.count(8), i);
        }
        for (int v : any) {
            Due.due("as the 21st", x.tell(v), Due.FULL);
            Due.due("count(8)", x.count(8), 20);
        }
        Due.due("none is so", x.check(0, 1), 1);
        Due.due("none wait", x.count(8), 0);
        for (int i = 1; i <= 20; i++) {
            Due.due("tell again", x.tell(600), i);
        }
        Due.due("FULL again", x.tell(600), Due.FULL);
        Due.due("all are so", x.check(0, 1), 0);
    }

    /** "0; else 1 and the place (from 0) of the first that isn't so": none, each of 20, all */
    private static void checkEachPlace() {
        LakeSwimmers x = two();
        Due.due("none wait", x.check(0, 1), 0);
        for (int n = 1; n <= 20; n++) {
            for (int wrong = 0; wrong <= n; wrong += n > 3 ? 3 : 1) {
                LakeSwimmers y = two();
                y.set(2, 9);
                for (int i = 0; i < n; i++) {
                    y.tell(i < wrong ? 600 : i == wrong ? 600 + (n % 2 == 0 ? 1 : -1) : 9);
                }
                Due.due(n + " told, number " + wrong + " wrong", y.check(1, 0), wrong == n ? 0 : 1 + wrong);
                Due.due("none wait", y.count(8), 0);
                Due.due("none that wait are so", y.check(0, 1), 0);
            }
        }
        // Who miss each other: BORDER stays, at either shore too.
        int[] borders = {0, 1200};
        for (int b : borders) {
            x.plan(0, 0, 1);
            Due.planAll(x, 1, 2);
            x.set(2, b);
            for (int i = 0; i < 20; i++) {
                x.tell(b);
            }
            Due.due("missed at " + b, x.check(0, 1), 0);
        }
    }

    /** "Nothing else changes" */
    private static void checkChangesNothing() {
        LakeSwimmers x = brimful();
        LakeSwimmers twin = brimful();
        Due.due("the first wrong one", x.check(0, 1) > 0 ? 1 : 0, 1);
        twin.image();
        twin.check(2, 3);
        Due.due("all else is as it was", all(x).equals(all(twin)) ? 1 : 0, 1);
        Due.due("no ERROR", x.told(1) - twin.told(1), 0);
    }

    /** "0 YEAR .. 10 z": empty and full */
    private static void counts() {
        LakeSwimmers x = brimful();
        int[] full = {1, 8, 1200, x.count(3), 100 - x.count(3), -3, 200, 50, 20, 0, -7};
        for (int what = 0; what <= 10; what++) {
            Due.due("count(" + what + ")", x.count(what), full[what]);
        }
        Due.due("count(11)", x.count(11), Due.BEYOND);
        Due.due("count(-1)", x.count(-1), Due.BEYOND);
        x.text(0);
        Due.due("THE TAPE is empty", x.count(7), 0);
    }

    /** "How many acts have answered an ERROR LOW - k (k 1 .. 5); BEYOND: another k (counted, too)" */
    private static void toldCounts() {
        LakeSwimmers x = two();
        for (int n = 1; n <= 20; n++) {
            x.flow(6);
            x.judge(0, 0);
            x.sheet(0, 8, -1);
            x.as(0, 1);
            Due.due("told(1)", x.told(1), n);
            Due.due("told(2)", x.told(2), n);
            Due.due("told(3)", x.told(3), n);
            Due.due("told(4)", x.told(4), 0);
            Due.due("told(5)", x.told(5), n);
        }
        for (int i = 0; i < 20; i++) {
            x.tell(i);
        }
        int[] beyond = {-1, 0, 6, LEAST, MOST, Due.BEYOND};
        for (int i = 0; i < beyond.length; i++) {
            Due.due("a 21st", x.tell(9), Due.FULL);
            Due.due("told(4)", x.told(4), i + 1);
            Due.due("told(" + beyond[i] + ")", x.told(beyond[i]), Due.BEYOND);
            Due.due("counted, too", x.told(1), 21 + i);
        }
        Due.due("told(2) as before", x.told(2), 20);
    }
}
