import java.util.ArrayDeque;
import java.util.ArrayList;
import java.util.Arrays;
import java.util.List;

/**
 * The document once more, as plainly as can be and by other means (kinds by inheritance, rows of
 * Java, every plan tried): what RunsTest holds LakeSwimmers against.
 */
final class Model {
    private static final int LOW = -1000000000;
    private static final int BEYOND = 1;
    private static final int NONE = 2;
    private static final int STATE = 3;
    private static final int FULL = 4;
    private static final int KIND = 5;

    /** A kind, by inheritance: what is above answers by super. */
    private static class Swims {
        int n;
        int m;
        int skill;
        List<Integer> trace = new ArrayList<>();

        int pace(int t) {
            return Math.max(5, 20 + skill - t / 4);
        }

        int swims(int x) {
            trace.add(10);
            return x + n;
        }

        int breathes(int x) {
            trace.add(11);
            return swims(x) * 2;
        }

        int tires(int x) {
            trace.add(12);
            return x - m;
        }

        int tells(int x) {
            trace.add(13);
            return breathes(x) ^ tires(x);
        }
    }

    private static class Sprinter extends Swims {
        @Override int pace(int t) {
            return t < m ? super.pace(t) + 20 : super.pace(t) / 2;
        }

        @Override int breathes(int x) {
            trace.add(20);
            return super.breathes(x) - tires(1);
        }
    }

    private static class Greased extends Swims {
        @Override int pace(int t) {
            return super.pace(t) + m;
        }

        @Override int swims(int x) {
            trace.add(30);
            return super.swims(x) * 3;
        }
    }

    private static class Drifter extends Swims {
        @Override int pace(int t) {
            return 5;
        }

        @Override int tires(int x) {
            trace.add(40);
            return -super.tires(x);
        }
    }

    private static final class Decoy extends Sprinter {
        @Override int pace(int t) {
            return t <= 3 ? 0 : super.pace(t);
        }

        @Override int breathes(int x) {
            trace.add(50);
            return super.breathes(x + 1);
        }
    }

    private static final class Steady extends Greased {
        @Override int pace(int t) {
            return super.pace(0);
        }

        @Override int tells(int x) {
            trace.add(60);
            return super.tells(x) - swims(2);
        }
    }

    private static final class Cramped extends Drifter {
        @Override int pace(int t) {
            return t % 10 == m ? 0 : super.pace(t);
        }

        @Override int tires(int x) {
            trace.add(70);
            return super.tires(x) ^ n;
        }

        @Override int tells(int x) {
            trace.add(71);
            return breathes(x) - super.tells(x);
        }
    }

    private record Who(int n, int km, int side, int skill, int met, List<Integer> plan) {
        Swims kind() {
            Swims k = switch (km / 10) {
                case 0 -> new Swims();
                case 1 -> new Sprinter();
                case 2 -> new Greased();
                case 3 -> new Drifter();
                case 4 -> new Decoy();
                case 5 -> new Steady();
                default -> new Cramped();
            };
            k.n = n;
            k.m = km % 10;
            k.skill = skill;
            return k;
        }

        int lane(int t) {
            return plan.get(Math.min(3, t / 10));
        }

        Who withSkill(int v) {
            return new Who(n, km, side, v, met, plan);
        }

        Who withSide(int v) {
            return new Who(n, km, v, skill, met, plan);
        }

        Who withPlan(Integer... lanes) {
            return new Who(n, km, side, skill, met, Arrays.asList(lanes));
        }
    }

    /** What is as an IMAGE has it. */
    private static final class All {
        int[] currents = new int[6];
        int wind = 0;
        int sight = 10;
        int border = 600;
        int year = 0;
        int[] fish = new int[2];
        List<Who> swimmers = new ArrayList<>();
        String[] texts = new String[2];
        String tape = "";
        List<Integer> waiting = new ArrayList<>();
        int z = 1;

        All same() {
            All a = new All();
            a.currents = currents.clone();
            a.wind = wind;
            a.sight = sight;
            a.border = border;
            a.year = year;
            a.fish = fish.clone();
            a.swimmers = new ArrayList<>(swimmers);
            a.texts = texts.clone();
            a.tape = tape;
            a.waiting = new ArrayList<>(waiting);
            a.z = z;
            return a;
        }
    }

    private All all = new All();
    private All kept = null;
    private int images = 0;
    private List<Integer> trace = new ArrayList<>();
    private final Object[] sheets = new Object[4];
    private final int[] errors = new int[6];

    private int error(int k) {
        errors[k]++;
        return LOW - k;
    }

    private static boolean in(int v, int least, int most) {
        return v >= least && v <= most;
    }

    private boolean isSwimmer(int i) {
        return in(i, 0, all.swimmers.size() - 1);
    }

    private boolean areTwo(int one, int other) {
        return isSwimmer(one) && isSwimmer(other) && all.swimmers.get(one).side != all.swimmers.get(other).side;
    }

    // ---- the lake, swimmers

    int current(int lane, int v) {
        if (!in(lane, 0, 5) || !in(v, -9, 9)) {
            return error(BEYOND);
        }
        int was = all.currents[lane];
        all.currents[lane] = v;
        return was;
    }

    int set(int what, int v) {
        int was;
        if (what == 0 && in(v, -3, 3)) {
            was = all.wind;
            all.wind = v;
            return was;
        }
        if (what == 1 && in(v, 0, 200)) {
            was = all.sight;
            all.sight = v;
            return was;
        }
        if (what == 2 && in(v, 0, 1200)) {
            was = all.border;
            all.border = v;
            return was;
        }
        return error(BEYOND);
    }

    int flow(int lane) {
        return in(lane, 0, 5) ? flowOf(lane, all.wind) : error(BEYOND);
    }

    int swimmer(int km, int side) {
        if (!in(km, 0, 69) || !in(side, 0, 1)) {
            return error(BEYOND);
        }
        if (all.swimmers.size() == 8) {
            return error(FULL);
        }
        all.swimmers.add(new Who(all.swimmers.size(), km, side, 10, 0, Arrays.asList(0, 0, 0, 0)));
        return all.swimmers.size() - 1;
    }

    int ofSwimmer(int swimmer, int what) {
        if (!isSwimmer(swimmer) || !in(what, 0, 8)) {
            return error(BEYOND);
        }
        Who w = all.swimmers.get(swimmer);
        int[] row = {w.km / 10, w.km % 10, w.side, w.skill, w.met,
            w.plan.get(0), w.plan.get(1), w.plan.get(2), w.plan.get(3)};
        return row[what];
    }

    int train(int swimmer, int v) {
        if (!isSwimmer(swimmer) || !in(v, 0, 30)) {
            return error(BEYOND);
        }
        Who w = all.swimmers.get(swimmer);
        all.swimmers.set(swimmer, w.withSkill(v));
        return w.skill;
    }

    int plan(int swimmer, int i, int lane) {
        if (!isSwimmer(swimmer) || !in(i, 0, 3) || !in(lane, 0, 5)) {
            return error(BEYOND);
        }
        Who w = all.swimmers.get(swimmer);
        Integer[] lanes = w.plan.toArray(new Integer[0]);
        int was = lanes[i];
        lanes[i] = lane;
        all.swimmers.set(swimmer, w.withPlan(lanes));
        return was;
    }

    int become(int swimmer, int km) {
        if (!isSwimmer(swimmer) || !in(km, 0, 69)) {
            return error(BEYOND);
        }
        Who w = all.swimmers.get(swimmer);
        all.swimmers.set(swimmer, new Who(w.n, km, w.side, w.skill, w.met, w.plan));
        return w.km / 10;
    }

    int as(int swimmer, int kind) {
        if (!isSwimmer(swimmer) || !in(kind, 0, 6)) {
            return error(BEYOND);
        }
        Who w = all.swimmers.get(swimmer);
        Class<?> top = new Who(0, 10 * kind, 0, 0, 0, List.of()).kind().getClass();
        return top.isInstance(w.kind()) ? w.km % 10 : error(KIND);
    }

    int pace(int swimmer, int minute) {
        if (!isSwimmer(swimmer) || !in(minute, 0, 59)) {
            return error(BEYOND);
        }
        return all.swimmers.get(swimmer).kind().pace(minute);
    }

    // ---- texts

    int feed(long word, int n) {
        if (!in(n, 1, 8)) {
            return error(BEYOND);
        }
        if (all.tape.length() + n > 50) {
            return error(FULL);
        }
        for (int i = 0; i < n; i++) {
            all.tape += (char) (word >> 8 * i & 255);
        }
        return all.tape.length();
    }

    int text(int use) {
        if (!in(use, 0, 1)) {
            return error(BEYOND);
        }
        String t = all.tape;
        all.tape = "";
        int fault = fault(t, use == 0 ? "cwl" : "byw");
        if (fault >= 0) {
            return -10 - fault;
        }
        all.texts[use] = t;
        return 1;
    }

    int law(int use, int a, int b, int c) {
        return in(use, 0, 1) ? give(use, a, b, c) : error(BEYOND);
    }

    private int flowOf(int lane, int wind) {
        return give(0, all.currents[lane], wind, lane);
    }

    private int give(int use, int a, int b, int c) {
        if (use == 0) {
            int v = all.texts[0] == null ? a + 2 * b : value(all.texts[0], "cwl", a, b, c);
            return Math.max(-30, Math.min(30, v));
        }
        int v = all.texts[1] == null ? a / 12 : value(all.texts[1], "byw", a, b, c);
        return Math.max(0, Math.min(100, v));
    }

    /** A machine with a stack: '!' and '(' that are open; 'C': a ( whose outside has compared. */
    private static int fault(String t, String names) {
        ArrayDeque<Character> open = new ArrayDeque<>();
        boolean wantsPart = true;
        boolean compared = false;
        int digits = 0;
        for (int i = 0; i < t.length(); i++) {
            char c = t.charAt(i);
            if (wantsPart && (c == '!' || c == '(')) {
                if (open.size() == 5) {
                    return i;
                }
                open.push(c == '(' && compared ? 'C' : c);
                compared = c == '!' && compared;
                continue;
            }
            if (wantsPart) {
                if (!in(c, '0', '9') && names.indexOf(c) < 0) {
                    return i;
                }
                digits = in(c, '0', '9') ? 1 : 4;
                wantsPart = false;
            } else if (in(c, '0', '9') && digits < 4) {
                digits++;
            } else if (c == ')') {
                if (open.isEmpty()) {
                    return i;
                }
                compared = open.pop() == 'C';
                digits = 4;
            } else if ("+-*/%&|".indexOf(c) >= 0) {
                wantsPart = true;
                compared = c != '&' && c != '|' && compared;
            } else if ("<=>".indexOf(c) >= 0 && !compared) {
                wantsPart = true;
                compared = true;
            } else {
                return i;
            }
            while (!wantsPart && !open.isEmpty() && open.peek() == '!') {
                open.pop();
            }
        }
        return wantsPart || !open.isEmpty() ? t.length() : -1;
    }

    private static int rank(char sign) {
        return switch (sign) {
            case '|' -> 1;
            case '&' -> 2;
            case '<', '=', '>' -> 3;
            case '+', '-' -> 4;
            case '*', '/', '%' -> 5;
            case '!' -> 6;
            default -> 0;
        };
    }

    /** Works a faultless text out with two stacks. */
    private static int value(String t, String names, int... given) {
        ArrayDeque<Integer> values = new ArrayDeque<>();
        ArrayDeque<Character> signs = new ArrayDeque<>();
        for (int i = 0; i < t.length(); i++) {
            char c = t.charAt(i);
            if (in(c, '0', '9')) {
                boolean goesOn = i > 0 && in(t.charAt(i - 1), '0', '9');
                values.push((goesOn ? values.pop() * 10 : 0) + c - '0');
            } else if (names.indexOf(c) >= 0) {
                values.push(given[names.indexOf(c)]);
            } else if (c == '(' || c == '!') {
                signs.push(c);
            } else if (c == ')') {
                while (signs.peek() != '(') {
                    apply(values, signs.pop());
                }
                signs.pop();
            } else {
                while (!signs.isEmpty() && rank(signs.peek()) >= rank(c)) {
                    apply(values, signs.pop());
                }
                signs.push(c);
            }
        }
        while (!signs.isEmpty()) {
            apply(values, signs.pop());
        }
        return values.pop();
    }

    private static void apply(ArrayDeque<Integer> values, char sign) {
        int right = values.pop();
        if (sign == '!') {
            values.push(right == 0 ? 1 : 0);
            return;
        }
        int left = values.pop();
        values.push(switch (sign) {
            case '|' -> (left | right) != 0 ? 1 : 0;
            case '&' -> left != 0 && right != 0 ? 1 : 0;
            case '<' -> left < right ? 1 : 0;
            case '=' -> left == right ? 1 : 0;
            case '>' -> left > right ? 1 : 0;
            case '+' -> left + right;
            case '-' -> left - right;
            case '*' -> left * right;
            case '/' -> right == 0 ? 0 : left / right;
            default -> right == 0 ? 0 : left % right;
        });
    }

    // ---- swims, years

    /** Where one is behind 0, 1, .. 60 MINUTES. */
    private int[] path(Who w, int wind) {
        int[] at = new int[61];
        at[0] = w.side == 0 ? 0 : 1200;
        for (int t = 0; t < 60; t++) {
            int go = w.kind().pace(t);
            at[t + 1] = at[t] + (w.side == 0 ? go : -go) + flowOf(w.lane(t), wind);
            at[t + 1] = Math.max(0, Math.min(1200, at[t + 1]));
        }
        return at;
    }

    /** MINUTE, place, LANE; null: they miss each other. */
    private int[] swim(Who one, Who other, int wind, int sight) {
        Who low = one.side == 0 ? one : other;
        Who high = one.side == 0 ? other : one;
        int[] a = path(low, wind);
        int[] b = path(high, wind);
        for (int t = 0; t < 60; t++) {
            if (low.lane(t) == high.lane(t) && b[t + 1] - a[t + 1] <= sight) {
                return new int[] {t, (a[t + 1] + b[t + 1]) / 2, low.lane(t)};
            }
        }
        return null;
    }

    private int[] swim(Who one, Who other) {
        return swim(one, other, all.wind, all.sight);
    }

    private static boolean better(Who one, int place, int than) {
        return one.side == 0 ? place > than : place < than;
    }

    int where(int swimmer, int n) {
        if (!isSwimmer(swimmer) || !in(n, 0, 60)) {
            return error(BEYOND);
        }
        return path(all.swimmers.get(swimmer), all.wind)[n];
    }

    int meet(int one, int other, int what) {
        if (!areTwo(one, other) || !in(what, 0, 2)) {
            return error(BEYOND);
        }
        int[] met = swim(all.swimmers.get(one), all.swimmers.get(other));
        return met == null ? error(NONE) : met[what];
    }

    private void goBy(int one, int other) {
        Who a = all.swimmers.get(one);
        Who b = all.swimmers.get(other);
        int[] met = swim(a, b);
        if (met != null) {
            all.border = met[1];
            all.swimmers.set(one, new Who(one, a.km, a.side, a.skill, Math.min(9999, a.met + 1), a.plan));
            all.swimmers.set(other, new Who(other, b.km, b.side, b.skill, Math.min(9999, b.met + 1), b.plan));
        }
        int caught = give(1, all.border, all.year, all.wind);
        all.fish[0] = Math.min(999999, all.fish[0] + caught);
        all.fish[1] = Math.min(999999, all.fish[1] + 100 - caught);
        all.year++;
    }

    int year(int one, int other) {
        if (!areTwo(one, other)) {
            return error(BEYOND);
        }
        if (all.year == 9999) {
            return error(STATE);
        }
        goBy(one, other);
        return all.border;
    }

    int loose(int one, int other) {
        if (!areTwo(one, other)) {
            return error(BEYOND);
        }
        if (all.year == 9999) {
            return error(STATE);
        }
        all.z = all.z * 1103515245 + 12345;
        all.wind = (all.z >>> 8) % 7 - 3;
        goBy(one, other);
        return all.border;
    }

    // ---- what would be

    int bestPlan(int one, int other, int what) {
        if (!areTwo(one, other) || !in(what, -1, 3)) {
            return error(BEYOND);
        }
        Who a = all.swimmers.get(one);
        int[] best = null;
        for (int p = 0; p < 1296; p++) {
            Integer[] lanes = {p / 216, p / 36 % 6, p / 6 % 6, p % 6};
            int[] met = swim(a.withPlan(lanes), all.swimmers.get(other));
            if (met != null && (best == null || better(a, met[1], best[4]))) {
                best = new int[] {lanes[0], lanes[1], lanes[2], lanes[3], met[1]};
            }
        }
        return best == null ? error(NONE) : best[what < 0 ? 4 : what];
    }

    private static Who alone(Who w, int lane) {
        return w.withPlan(lane, lane, lane, lane);
    }

    int hold(int one, int other, int what) {
        if (!areTwo(one, other) || !in(what, 0, 1)) {
            return error(BEYOND);
        }
        Who a = all.swimmers.get(one);
        int[] best = null;
        for (int i = 0; i < 6; i++) {
            Integer worst = null;
            for (int j = 0; j < 6; j++) {
                int[] met = swim(alone(a, i), alone(all.swimmers.get(other), j));
                int place = met == null ? all.border : met[1];
                worst = worst == null || better(a, worst, place) ? Integer.valueOf(place) : worst;
            }
            if (best == null || better(a, worst, best[1])) {
                best = new int[] {i, worst};
            }
        }
        return best[what];
    }

    int ask(int one, int other) {
        if (!areTwo(one, other)) {
            return error(BEYOND);
        }
        Who a = all.swimmers.get(one);
        int[] best = null;
        for (int wind = -3; wind <= 3; wind++) {
            int[] met = swim(a, all.swimmers.get(other), wind, all.sight);
            if (met != null && (best == null || better(a, met[1], best[1]))) {
                best = new int[] {wind, met[1]};
            }
        }
        return best == null ? error(NONE) : best[0];
    }

    int leastSight(int one, int other) {
        if (!areTwo(one, other)) {
            return error(BEYOND);
        }
        for (int sight = 0; sight <= 200; sight++) {
            if (swim(all.swimmers.get(one), all.swimmers.get(other), all.wind, sight) != null) {
                return sight;
            }
        }
        return error(NONE);
    }

    int send(int other) {
        if (!isSwimmer(other)) {
            return error(BEYOND);
        }
        int[] best = null;
        for (Who w : all.swimmers) {
            int[] met = w.side == all.swimmers.get(other).side ? null : swim(w, all.swimmers.get(other));
            if (met != null && (best == null || better(w, met[1], best[1]))) {
                best = new int[] {w.n, met[1]};
            }
        }
        return best == null ? error(NONE) : best[0];
    }

    int diary(int one, int other, int minute, int place, int what) {
        if (!areTwo(one, other) || !in(minute, 0, 59) || !in(place, 0, 1200) || !in(what, 0, 1)) {
            return error(BEYOND);
        }
        List<Integer> pairs = new ArrayList<>();
        for (int i = 0; i < 6; i++) {
            for (int j = 0; j < 6; j++) {
                int[] met = swim(alone(all.swimmers.get(one), i), alone(all.swimmers.get(other), j));
                if (met != null && met[0] == minute && met[1] == place) {
                    pairs.add(10 * i + j);
                }
            }
        }
        if (what == 0) {
            return pairs.size();
        }
        return pairs.isEmpty() ? error(NONE) : pairs.get(0);
    }

    int training(int one, int other, int place) {
        if (!areTwo(one, other) || !in(place, 0, 1200)) {
            return error(BEYOND);
        }
        Who a = all.swimmers.get(one);
        for (int skill = 0; skill <= 30; skill++) {
            int[] met = swim(a.withSkill(skill), all.swimmers.get(other));
            if (met != null && (met[1] == place || better(a, met[1], place))) {
                return skill;
            }
        }
        return error(NONE);
    }

    int fair(int one, int other) {
        if (!areTwo(one, other)) {
            return error(BEYOND);
        }
        Who a = all.swimmers.get(one);
        Who b = all.swimmers.get(other);
        int[] is = swim(a, b);
        int[] so = swim(a.withSide(b.side), b.withSide(a.side));
        return is == null || so == null ? error(NONE) : is[1] + so[1] - 1200;
    }

    // ---- draws, voices, sheets, images, what is told

    int seed(int v) {
        int was = all.z;
        all.z = v;
        return was;
    }

    int voice(int swimmer, int act, int x) {
        if (!isSwimmer(swimmer) || !in(act, 0, 3)) {
            return error(BEYOND);
        }
        Swims k = all.swimmers.get(swimmer).kind();
        trace = k.trace;
        return switch (act) {
            case 0 -> k.swims(x);
            case 1 -> k.breathes(x);
            case 2 -> k.tires(x);
            default -> k.tells(x);
        };
    }

    int trace(int i) {
        return in(i, 0, Math.min(40, trace.size()) - 1) ? trace.get(i) : error(NONE);
    }

    int sheet(int sheet, int bits, int n) {
        if (!in(sheet, 0, 3) || bits != 0 && bits != 8 && bits != 16 && bits != 32) {
            return error(BEYOND);
        }
        if (bits != 0 && n < 0) {
            return error(STATE);
        }
        if (bits != 0 && n > 40) {
            return error(BEYOND);
        }
        sheets[sheet] = switch (bits) {
            case 8 -> new byte[n];
            case 16 -> new short[n];
            case 32 -> new int[n];
            default -> null;
        };
        return 1;
    }

    // Not by java.lang.reflect.Array: Java 17's compiler went wrong on what its getInt answers.
    private int length(int sheet) {
        if (sheets[sheet] instanceof byte[] row) {
            return row.length;
        }
        return sheets[sheet] instanceof short[] row ? row.length : ((int[]) sheets[sheet]).length;
    }

    private int number(int sheet, int i) {
        if (sheets[sheet] instanceof byte[] row) {
            return row[i];
        }
        return sheets[sheet] instanceof short[] row ? row[i] : ((int[]) sheets[sheet])[i];
    }

    int put(int sheet, int i, int v) {
        if (!in(sheet, 0, 3)) {
            return error(BEYOND);
        }
        if (sheets[sheet] == null) {
            return error(NONE);
        }
        if (!in(i, 0, length(sheet) - 1)) {
            return error(BEYOND);
        }
        if (sheets[sheet] instanceof byte[] row) {
            row[i] = (byte) v;
        } else if (sheets[sheet] instanceof short[] row) {
            row[i] = (short) v;
        } else if (sheets[sheet] instanceof int[] row) {
            row[i] = v;
        }
        return 1;
    }

    int move(int sheet, int i, int other, int j, int n) {
        if (!in(sheet, 0, 3) || !in(other, 0, 3)) {
            return error(BEYOND);
        }
        if (sheets[sheet] == null || sheets[other] == null) {
            return error(NONE);
        }
        if (sheets[sheet].getClass() != sheets[other].getClass()) {
            return error(KIND);
        }
        boolean fits = n >= 0 && i >= 0 && j >= 0
            && (long) i + n <= length(sheet) && (long) j + n <= length(other);
        if (!fits) {
            return error(BEYOND);
        }
        System.arraycopy(sheets[sheet], i, sheets[other], j, n);
        return n;
    }

    int years(int sheet) {
        if (!in(sheet, 0, 3)) {
            return error(BEYOND);
        }
        if (sheets[sheet] == null) {
            return error(NONE);
        }
        int gone = 0;
        while (2 * gone + 1 < length(sheet)) {
            int one = number(sheet, 2 * gone);
            int other = number(sheet, 2 * gone + 1);
            if (!areTwo(one, other) || all.year == 9999) {
                break;
            }
            goBy(one, other);
            gone++;
        }
        return gone;
    }

    int judge(int sheet, int swimmer) {
        if (!in(sheet, 0, 3) || !isSwimmer(swimmer)) {
            return error(BEYOND);
        }
        if (sheets[sheet] == null) {
            return error(NONE);
        }
        int[] at = path(all.swimmers.get(swimmer), all.wind);
        for (int i = 0; i < length(sheet); i++) {
            if (number(sheet, i) != at[i]) {
                return i;
            }
        }
        return length(sheet);
    }

    int image() {
        kept = all.same();
        return ++images;
    }

    int restore() {
        if (kept == null) {
            return error(NONE);
        }
        all = kept.same();
        return all.year;
    }

    int tell(int v) {
        if (all.waiting.size() == 20) {
            return error(FULL);
        }
        all.waiting.add(v);
        return all.waiting.size();
    }

    int check(int one, int other) {
        List<Integer> waited = all.waiting;
        all.waiting = new ArrayList<>();
        if (!areTwo(one, other)) {
            return error(BEYOND);
        }
        All before = all.same();
        int wrong = 0;
        for (int i = 0; i < waited.size() && wrong == 0; i++) {
            if (all.year == 9999) {
                wrong = 1 + i;
            } else {
                goBy(one, other);
                wrong = all.border == waited.get(i) ? 0 : 1 + i;
            }
        }
        all = before;
        return wrong;
    }

    int count(int what) {
        if (!in(what, 0, 10)) {
            return error(BEYOND);
        }
        int[] row = {all.year, all.swimmers.size(), all.border, all.fish[0], all.fish[1], all.wind, all.sight,
            all.tape.length(), all.waiting.size(), Math.min(40, trace.size()), all.z};
        return row[what];
    }

    int told(int k) {
        return in(k, 1, 5) ? errors[k] : error(BEYOND);
    }
}
