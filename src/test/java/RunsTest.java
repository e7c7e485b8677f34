import java.lang.reflect.InvocationTargetException;
import java.lang.reflect.Method;
import java.util.ArrayList;
import java.util.List;
import java.util.Random;

/** Runs of 512 calls, always the same ones, on new objects: LakeSwimmers answers as the Model does. */
public final class RunsTest {
    private static final int RUNS = 400;
    /** An object is used for 512 calls at most. */
    private static final int CALLS = 512;
    private static final int MOST_AT_ONCE = 24;
    private static final String SIGNS = "cwlbyw0123456789+-*/%<=>&|!(())((!";

    /** A call, how often it comes, and for each argument the bounds of what is asked mostly. */
    private static final String[] CALLS_MADE = {
        "current 3 -1 6 -10 10", "set 4 0 3 -4 210", "flow 3 -1 6", "swimmer 6 -1 70 -1 2",
        "ofSwimmer 4 -1 8 -1 9", "train 3 -1 8 -1 31", "plan 6 -1 8 -1 4 -1 6", "become 3 -1 8 -1 70",
        "as 3 -1 8 -1 7", "pace 4 -1 8 -1 60", "feed 3 0 0 0 9", "text 2 -1 2", "law 3 -1 2 -99 1300 -99 99 -9 9",
        "where 4 -1 8 -1 61", "meet 6 0 7 0 7 -1 3", "year 4 0 7 0 7", "loose 3 0 7 0 7",
        "bestPlan 1 0 7 0 7 -2 4", "hold 4 0 7 0 7 -1 2", "ask 4 0 7 0 7", "leastSight 4 0 7 0 7",
        "send 4 -1 8", "diary 3 0 7 0 7 -1 60 -1 1201 -1 2", "training 4 0 7 0 7 -1 1201", "fair 4 0 7 0 7",
        "seed 1 -99 99", "voice 5 -1 8 -1 4 -99 99", "trace 3 -1 12", "sheet 3 -1 4 0 0 -1 41",
        "put 8 -1 4 -1 40 -1 8", "move 4 -1 4 -1 40 -1 4 -1 40 -1 20", "years 2 -1 4", "judge 3 -1 4 -1 8",
        "image 1", "restore 1", "tell 4 599 601", "check 2 0 7 0 7", "count 6 -1 11", "told 2 0 6"};

    private static final int[] EDGES = {Integer.MIN_VALUE, Integer.MIN_VALUE + 1, -1000000001, -1, 0, 1,
        7, 8, 40, 1200, 65535, 1000000000, Integer.MAX_VALUE - 1, Integer.MAX_VALUE};

    private final Random random;
    private final LakeSwimmers real = new LakeSwimmers();
    private final Model model = new Model();
    private final List<String> made = new ArrayList<>();
    private int calls = 0;

    private RunsTest(int run) {
        random = new Random(run);
    }

    public static void main(String[] args) throws ReflectiveOperationException {
        List<String[]> bag = new ArrayList<>();
        for (String line : CALLS_MADE) {
            String[] words = line.split(" ");
            for (int i = 0; i < Integer.parseInt(words.length > 1 ? words[1] : "1"); i++) {
                bag.add(words);
            }
        }
        for (int run = 0; run < RUNS; run++) {
            RunsTest test = new RunsTest(run);
            test.begin(run);
            boolean asDue = true;
            while (test.calls <= CALLS - MOST_AT_ONCE && asDue) {
                asDue = test.some(bag.get(test.random.nextInt(bag.size())));
            }
            if (!asDue) {
                System.out.println("run " + run + ": " + test.made.size() + " calls");
            }
        }
        Due.finish("RunsTest");
    }

    /** Most runs begin with swimmers of either side, some of them near one another. */
    private void begin(int run) throws ReflectiveOperationException {
        for (int i = 0; i < run % 9; i++) {
            call("swimmer", random.nextInt(70), i % 2);
        }
        if (run % 3 == 0) {
            call("set", 0, random.nextInt(7) - 3);
            for (int lane = 0; lane < 6; lane++) {
                call("current", lane, random.nextInt(19) - 9);
            }
        }
    }

    private boolean some(String[] words) throws ReflectiveOperationException {
        if (words[0].equals("feed")) {
            return feedSome();
        }
        Object[] given = new Object[(words.length - 2) / 2];
        for (int i = 0; i < given.length; i++) {
            int least = Integer.parseInt(words[2 * i + 2]);
            int most = Integer.parseInt(words[2 * i + 3]);
            given[i] = least + random.nextInt(most - least + 1);
            if (random.nextInt(60) == 0) {
                given[i] = EDGES[random.nextInt(EDGES.length)];
            }
        }
        if (words[0].equals("set") && random.nextInt(3) == 0) {
            given[0] = 2;
            given[1] = random.nextInt(1203) - 1;
        }
        if (words[0].equals("sheet")) {
            given[1] = new int[] {8, 16, 32, 8, 0, 9}[random.nextInt(6)];
        }
        if (words[0].equals("judge") && random.nextBoolean()) {
            return judgeSome();
        }
        if (words[0].equals("diary") && random.nextBoolean()) {
            return diarySome();
        }
        return call(words[0], given);
    }

    /** Often a whole text is fed and read at once, so that many are without a FAULT. */
    private boolean feedSome() throws ReflectiveOperationException {
        if (random.nextInt(8) == 0) {
            return call("feed", random.nextLong(), random.nextInt(10));
        }
        StringBuilder text = new StringBuilder();
        int use = random.nextInt(2);
        part(text, use, 3);
        if (random.nextInt(4) == 0) {
            text.insert(random.nextInt(text.length() + 1), SIGNS.charAt(random.nextInt(SIGNS.length())));
        }
        if (random.nextInt(6) == 0) {
            text.setLength(random.nextInt(text.length() + 1));
        }
        boolean asDue = true;
        for (int from = 0; from < text.length() && asDue; from += 8) {
            int to = Math.min(from + 8, text.length());
            long word = random.nextLong();
            for (int i = to - 1; i >= from; i--) {
                word = word << 8 | text.charAt(i);
            }
            asDue = call("feed", word, to - from);
        }
        asDue = asDue && call("text", use);
        for (int i = 0; i < 3 && asDue; i++) {
            asDue = call("law", use, random.nextInt(1201), random.nextInt(99) - 50, random.nextInt(6));
        }
        return asDue;
    }

    private void part(StringBuilder text, int use, int depth) {
        int which = random.nextInt(depth > 0 ? 9 : 4);
        if (which < 2) {
            text.append((use == 0 ? "cwl" : "byw").charAt(random.nextInt(3)));
        } else if (which < 4) {
            text.append(random.nextInt(random.nextBoolean() ? 12 : 10000));
        } else if (which == 4) {
            text.append('!');
            part(text, use, depth - 1);
        } else if (which == 5) {
            text.append('(');
            part(text, use, depth - 1);
            text.append(')');
        } else {
            part(text, use, depth - 1);
            text.append("+-*/%<=>&|".charAt(random.nextInt(10)));
            part(text, use, depth - 1);
        }
    }

    /** A sheet that is right for a while. */
    private boolean judgeSome() throws ReflectiveOperationException {
        int swimmer = random.nextInt(8);
        int n = random.nextInt(7);
        boolean asDue = call("sheet", 0, random.nextBoolean() ? 16 : 8, n);
        for (int i = 0; i < n && asDue; i++) {
            asDue = call("put", 0, i, model.where(swimmer, i) + (random.nextInt(9) == 0 ? 1 : 0))
                && call("where", swimmer, i);
            // The Model was asked once more than the real one.
            real.where(swimmer, i);
            calls++;
        }
        return asDue && call("judge", 0, swimmer);
    }

    private boolean diarySome() throws ReflectiveOperationException {
        int one = random.nextInt(8);
        int other = random.nextInt(8);
        int minute = model.meet(one, other, 0);
        int place = model.meet(one, other, 1);
        real.meet(one, other, 0);
        real.meet(one, other, 1);
        calls += 2;
        return call("diary", one, other, minute, place, random.nextInt(2))
            && call("training", one, other, Math.max(0, place));
    }

    private boolean call(String name, Object... given) throws ReflectiveOperationException {
        int got;
        int want;
        String told = name + java.util.Arrays.toString(given);
        try {
            got = (int) methodOf(LakeSwimmers.class, name).invoke(real, given);
            want = (int) methodOf(Model.class, name).invoke(model, given);
        } catch (InvocationTargetException e) {
            System.out.println(told + " threw " + e.getCause());
            Due.due(told, 1, 0);
            return false;
        }
        made.add(told);
        calls++;
        Due.due("call " + made.size() + ": " + told, got, want);
        return got == want;
    }

    private static Method methodOf(Class<?> of, String name) {
        for (Method m : of.getDeclaredMethods()) {
            if (m.getName().equals(name)) {
                return m;
            }
        }
        throw new IllegalStateException(name);
    }
}
