/**
 * Where two swimmers meet: each spring the border in the lake is where a swimmer from either shore
 * meets the other. ../shared/DOC.md says what every method promises.
 */
public final class LakeSwimmers {

    private static final int LOW = -1000000000;
    private static final int BEYOND = 1;
    private static final int NONE = 2;
    private static final int STATE = 3;
    private static final int FULL = 4;
    private static final int KIND = 5;

    private static final int LANES = 6;
    private static final int MOST_CURRENT = 9;
    private static final int MOST_WIND = 3;
    private static final int MOST_SIGHT = 200;
    private static final int FAR_SHORE = 1200;
    private static final int MINUTES = 60;
    private static final int LAST_YEAR = 9999;
    private static final int MOST_FISH = 999999;
    private static final int MOST_CATCH = 100;
    private static final int MOST_MET = 9999;
    private static final int MOST_SWIMMERS = 8;
    private static final int MOST_KM = 69;
    private static final int MOST_SKILL = 30;
    private static final int PLAN_PARTS = 4;
    private static final int PART_MINUTES = 10;
    private static final int FLOWS = 0;
    private static final int CATCH = 1;
    private static final int TAPE_LENGTH = 50;
    private static final int MOST_WAITING = 20;
    private static final int SHEETS = 4;
    private static final int SHEET_LENGTH = 40;

    private static final int SWIMMER = 0;
    private static final int SPRINTER = 1;
    private static final int GREASED = 2;
    private static final int DRIFTER = 3;
    private static final int DECOY = 4;
    private static final int STEADY = 5;
    private static final int CRAMPED = 6;
    private static final int KINDS = 7;
    /** The KIND above each KIND; -1 above SWIMMER. */
    private static final int[] ABOVE = {-1, SWIMMER, SWIMMER, SWIMMER, SPRINTER, GREASED, DRIFTER};

    private final Lake lake = new Lake();
    private final Lake kept = new Lake();
    private final Reader reader = new Reader();
    private final Swim swim = new Swim();
    private final PlanSearch search = new PlanSearch();
    private final Voices voices = new Voices();
    private final Sheet[] sheets = new Sheet[SHEETS];
    private final int[] errorCounts = new int[KIND + 1];
    /** Two who stand in for SWIMMERS in what would be. */
    private final Swimmer standIn = new Swimmer();
    private final Swimmer otherStandIn = new Swimmer();
    private int imageCount = 0;

    public LakeSwimmers() {
        for (int i = 0; i < sheets.length; i++) {
            sheets[i] = new Sheet();
        }
    }

    // ---- the lake, swimmers

    public int current(int lane, int v) {
        if (isOutside(lane, 0, LANES - 1) || isOutside(v, -MOST_CURRENT, MOST_CURRENT)) {
            return refuse(BEYOND);
        }
        int was = lake.currents[lane];
        lake.currents[lane] = v;
        return was;
    }

    public int set(int what, int v) {
        int was;
        if (what == 0 && !isOutside(v, -MOST_WIND, MOST_WIND)) {
            was = lake.wind;
            lake.wind = v;
        } else if (what == 1 && !isOutside(v, 0, MOST_SIGHT)) {
            was = lake.sight;
            lake.sight = v;
        } else if (what == 2 && !isOutside(v, 0, FAR_SHORE)) {
            was = lake.border;
            lake.border = v;
        } else {
            was = refuse(BEYOND);
        }
        return was;
    }

    public int flow(int lane) {
        if (isOutside(lane, 0, LANES - 1)) {
            return refuse(BEYOND);
        }
        return lake.flowOf(lane, lake.wind);
    }

    public int swimmer(int km, int side) {
        if (isOutside(km, 0, MOST_KM) || isOutside(side, 0, 1)) {
            return refuse(BEYOND);
        }
        int number = lake.swimmerCount;
        if (number >= MOST_SWIMMERS) {
            return refuse(FULL);
        }
        lake.swimmerCount = number + 1;
        Swimmer s = lake.swimmerAt(number);
        if (s != null) {
            s.begin(km, side);
        }
        return number;
    }

    public int ofSwimmer(int swimmer, int what) {
        Swimmer s = lake.swimmerAt(swimmer);
        if (s == null || isOutside(what, 0, 4 + PLAN_PARTS)) {
            return refuse(BEYOND);
        }
        switch (what) {
            case 0: return s.kind;
            case 1: return s.m;
            case 2: return s.side;
            case 3: return s.skill;
            case 4: return s.met;
            default: return s.laneOf(what - 5);
        }
    }

    public int train(int swimmer, int v) {
        Swimmer s = lake.swimmerAt(swimmer);
        if (s == null || isOutside(v, 0, MOST_SKILL)) {
            return refuse(BEYOND);
        }
        int was = s.skill;
        s.skill = v;
        return was;
    }

    public int plan(int swimmer, int i, int lane) {
        Swimmer s = lake.swimmerAt(swimmer);
        if (s == null || isOutside(i, 0, PLAN_PARTS - 1) || isOutside(lane, 0, LANES - 1)) {
            return refuse(BEYOND);
        }
        int was = s.lanes[i];
        s.lanes[i] = lane;
        return was;
    }

    public int become(int swimmer, int km) {
        Swimmer s = lake.swimmerAt(swimmer);
        if (s == null || isOutside(km, 0, MOST_KM)) {
            return refuse(BEYOND);
        }
        int was = s.kind;
        s.turnInto(km);
        return was;
    }

    public int as(int swimmer, int kind) {
        Swimmer s = lake.swimmerAt(swimmer);
        if (s == null || isOutside(kind, 0, KINDS - 1)) {
            return refuse(BEYOND);
        }
        return isUnder(s.kind, kind) ? s.m : refuse(KIND);
    }

    public int pace(int swimmer, int minute) {
        Swimmer s = lake.swimmerAt(swimmer);
        if (s == null || isOutside(minute, 0, MINUTES - 1)) {
            return refuse(BEYOND);
        }
        return s.paceIn(minute);
    }

    // ---- texts

    public int feed(long word, int n) {
        if (isOutside(n, 1, 8)) {
            return refuse(BEYOND);
        }
        if (lake.tapeLength + n > TAPE_LENGTH) {
            return refuse(FULL);
        }
        lake.addToTape(word, n);
        return lake.tapeLength;
    }

    public int text(int use) {
        Law law = lake.lawOf(use);
        if (law == null) {
            return refuse(BEYOND);
        }
        int fault = reader.read(lake.tape, lake.tapeLength, use);
        lake.tapeLength = 0;
        if (fault >= 0) {
            return -10 - fault;
        }
        law.take(reader);
        return 1;
    }

    public int law(int use, int a, int b, int c) {
        Law law = lake.lawOf(use);
        return law == null ? refuse(BEYOND) : law.give(a, b, c);
    }

    // ---- swims, years

    public int where(int swimmer, int n) {
        Swimmer s = lake.swimmerAt(swimmer);
        if (s == null || isOutside(n, 0, MINUTES)) {
            return refuse(BEYOND);
        }
        swim.feel(lake, lake.wind);
        return swim.placeBehind(s, n);
    }

    public int meet(int one, int other, int what) {
        Swimmer a = lake.swimmerAt(one);
        Swimmer b = lake.swimmerAt(other);
        if (!areUnlike(a, b) || isOutside(what, 0, 2)) {
            return refuse(BEYOND);
        }
        swim.feel(lake, lake.wind);
        if (!swim.meets(a, b, lake.sight)) {
            return refuse(NONE);
        }
        switch (what) {
            case 0: return swim.minute;
            case 1: return swim.place;
            default: return swim.lane;
        }
    }

    public int year(int one, int other) {
        int error = whyNoYear(one, other);
        if (error != 0) {
            return refuse(error);
        }
        letYearGoBy(one, other);
        return lake.border;
    }

    public int loose(int one, int other) {
        int error = whyNoYear(one, other);
        if (error != 0) {
            return refuse(error);
        }
        lake.wind = lake.draw() % (2 * MOST_WIND + 1) - MOST_WIND;
        letYearGoBy(one, other);
        return lake.border;
    }

    // ---- what would be

    public int bestPlan(int one, int other, int what) {
        Swimmer a = lake.swimmerAt(one);
        Swimmer b = lake.swimmerAt(other);
        if (!areUnlike(a, b) || isOutside(what, -1, PLAN_PARTS - 1)) {
            return refuse(BEYOND);
        }
        swim.feel(lake, lake.wind);
        search.seek(swim, a, b, lake.sight);
        if (!search.found) {
            return refuse(NONE);
        }
        return what < 0 ? search.place : search.bestLane(what);
    }

    public int hold(int one, int other, int what) {
        Swimmer a = lake.swimmerAt(one);
        Swimmer b = lake.swimmerAt(other);
        if (!areUnlike(a, b) || isOutside(what, 0, 1)) {
            return refuse(BEYOND);
        }
        swim.feel(lake, lake.wind);
        int lane = 0;
        int worst = worstPlaceIn(0, a, b);
        for (int i = 1; i < LANES; i++) {
            int here = worstPlaceIn(i, a, b);
            if (isBetter(a.side, here, worst)) {
                lane = i;
                worst = here;
            }
        }
        return what == 0 ? lane : worst;
    }

    public int ask(int one, int other) {
        Swimmer a = lake.swimmerAt(one);
        Swimmer b = lake.swimmerAt(other);
        if (!areUnlike(a, b)) {
            return refuse(BEYOND);
        }
        boolean found = false;
        int best = 0;
        int place = 0;
        for (int wind = -MOST_WIND; wind <= MOST_WIND; wind++) {
            swim.feel(lake, wind);
            if (swim.meets(a, b, lake.sight) && (!found || isBetter(a.side, swim.place, place))) {
                found = true;
                best = wind;
                place = swim.place;
            }
        }
        return found ? best : refuse(NONE);
    }

    public int leastSight(int one, int other) {
        Swimmer a = lake.swimmerAt(one);
        Swimmer b = lake.swimmerAt(other);
        if (!areUnlike(a, b)) {
            return refuse(BEYOND);
        }
        swim.feel(lake, lake.wind);
        int sight = swim.leastGap(a, b);
        return sight > MOST_SIGHT ? refuse(NONE) : sight;
    }

    public int send(int other) {
        Swimmer b = lake.swimmerAt(other);
        if (b == null) {
            return refuse(BEYOND);
        }
        swim.feel(lake, lake.wind);
        int best = -1;
        int place = 0;
        for (int i = 0; i < MOST_SWIMMERS; i++) {
            Swimmer a = lake.swimmerAt(i);
            if (areUnlike(a, b) && swim.meets(a, b, lake.sight)
                    && (best < 0 || isBetter(a.side, swim.place, place))) {
                best = i;
                place = swim.place;
            }
        }
        return best < 0 ? refuse(NONE) : best;
    }

    public int diary(int one, int other, int minute, int place, int what) {
        Swimmer a = lake.swimmerAt(one);
        Swimmer b = lake.swimmerAt(other);
        if (!areUnlike(a, b) || isOutside(minute, 0, MINUTES - 1) || isOutside(place, 0, FAR_SHORE)
                || isOutside(what, 0, 1)) {
            return refuse(BEYOND);
        }
        swim.feel(lake, lake.wind);
        int pairs = 0;
        int first = 0;
        for (int lane = 0; lane < LANES; lane++) {
            if (meetInLane(lane, a, b) && swim.minute == minute && swim.place == place) {
                first = pairs == 0 ? 10 * lane + lane : first;
                pairs++;
            }
        }
        if (what == 0) {
            return pairs;
        }
        return pairs == 0 ? refuse(NONE) : first;
    }

    public int training(int one, int other, int place) {
        Swimmer a = lake.swimmerAt(one);
        Swimmer b = lake.swimmerAt(other);
        if (!areUnlike(a, b) || isOutside(place, 0, FAR_SHORE)) {
            return refuse(BEYOND);
        }
        swim.feel(lake, lake.wind);
        standIn.copy(a);
        for (int skill = 0; skill <= MOST_SKILL; skill++) {
            standIn.skill = skill;
            if (swim.meets(standIn, b, lake.sight) && !isBetter(a.side, place, swim.place)) {
                return skill;
            }
        }
        return refuse(NONE);
    }

    public int fair(int one, int other) {
        Swimmer a = lake.swimmerAt(one);
        Swimmer b = lake.swimmerAt(other);
        if (!areUnlike(a, b)) {
            return refuse(BEYOND);
        }
        swim.feel(lake, lake.wind);
        if (!swim.meets(a, b, lake.sight)) {
            return refuse(NONE);
        }
        int place = swim.place;
        standIn.copy(a);
        standIn.side = b.side;
        otherStandIn.copy(b);
        otherStandIn.side = a.side;
        if (!swim.meets(standIn, otherStandIn, lake.sight)) {
            return refuse(NONE);
        }
        return place + swim.place - FAR_SHORE;
    }

    // ---- draws, voices, sheets, images, what is told

    public int seed(int v) {
        int was = lake.z;
        lake.z = v;
        return was;
    }

    public int voice(int swimmer, int act, int x) {
        Swimmer s = lake.swimmerAt(swimmer);
        if (s == null || isOutside(act, 0, Voices.ACTS - 1)) {
            return refuse(BEYOND);
        }
        return voices.speak(s, swimmer, act, x);
    }

    public int trace(int i) {
        if (isOutside(i, 0, voices.traceLength - 1) || i >= voices.trace.length) {
            return refuse(NONE);
        }
        return voices.trace[i];
    }

    public int sheet(int sheet, int bits, int n) {
        Sheet s = sheetAt(sheet);
        if (s == null || (bits != 0 && bits != 8 && bits != 16 && bits != 32)) {
            return refuse(BEYOND);
        }
        if (bits == 0) {
            s.clear(0, 0);
            return 1;
        }
        if (n < 0) {
            return refuse(STATE);
        }
        if (n > SHEET_LENGTH) {
            return refuse(BEYOND);
        }
        s.clear(bits, n);
        return 1;
    }

    public int put(int sheet, int i, int v) {
        Sheet s = sheetAt(sheet);
        if (s == null) {
            return refuse(BEYOND);
        }
        if (s.isMissing()) {
            return refuse(NONE);
        }
        if (isOutside(i, 0, s.length - 1)) {
            return refuse(BEYOND);
        }
        s.write(i, v);
        return 1;
    }

    public int move(int sheet, int i, int other, int j, int n) {
        Sheet from = sheetAt(sheet);
        Sheet to = sheetAt(other);
        if (from == null || to == null) {
            return refuse(BEYOND);
        }
        if (from.isMissing() || to.isMissing()) {
            return refuse(NONE);
        }
        if (from.bits != to.bits) {
            return refuse(KIND);
        }
        if (!from.holds(i, n) || !to.holds(j, n)) {
            return refuse(BEYOND);
        }
        System.arraycopy(from.numbers, i, to.numbers, j, n);
        return n;
    }

    public int years(int sheet) {
        Sheet s = sheetAt(sheet);
        if (s == null) {
            return refuse(BEYOND);
        }
        if (s.isMissing()) {
            return refuse(NONE);
        }
        int gone = 0;
        for (int i = 0; i + 1 < s.length; i += 2) {
            int one = s.read(i);
            int other = s.read(i + 1);
            if (whyNoYear(one, other) != 0) {
                break;
            }
            letYearGoBy(one, other);
            gone++;
        }
        return gone;
    }

    public int judge(int sheet, int swimmer) {
        Sheet s = sheetAt(sheet);
        Swimmer who = lake.swimmerAt(swimmer);
        if (s == null || who == null) {
            return refuse(BEYOND);
        }
        if (s.isMissing()) {
            return refuse(NONE);
        }
        swim.feel(lake, lake.wind);
        int at = who.shore();
        for (int i = 0; i < s.length; i++) {
            if (s.read(i) != at) {
                return i;
            }
            at = swim.placeNext(who, at, i);
        }
        return s.length;
    }

    public int image() {
        kept.copy(lake);
        imageCount++;
        return imageCount;
    }

    public int restore() {
        if (imageCount == 0) {
            return refuse(NONE);
        }
        lake.copy(kept);
        return lake.year;
    }

    public int tell(int v) {
        int i = lake.waitingCount;
        if (isOutside(i, 0, MOST_WAITING - 1)) {
            return refuse(FULL);
        }
        lake.waiting[i] = v;
        lake.waitingCount = i + 1;
        return lake.waitingCount;
    }

    public int check(int one, int other) {
        int waited = lake.waitingCount;
        lake.waitingCount = 0;
        Swimmer a = lake.swimmerAt(one);
        Swimmer b = lake.swimmerAt(other);
        if (!areUnlike(a, b)) {
            return refuse(BEYOND);
        }
        // A year changes nothing that a swim looks at: the border is the same behind each of them.
        swim.feel(lake, lake.wind);
        int border = swim.meets(a, b, lake.sight) ? swim.place : lake.border;
        for (int i = 0; i < waited && i < MOST_WAITING; i++) {
            boolean yearComes = lake.year + i < LAST_YEAR;
            if (!yearComes || lake.waiting[i] != border) {
                return 1 + i;
            }
        }
        return 0;
    }

    public int count(int what) {
        switch (what) {
            case 0: return lake.year;
            case 1: return lake.swimmerCount;
            case 2: return lake.border;
            case 3: return lake.fish;
            case 4: return lake.otherFish;
            case 5: return lake.wind;
            case 6: return lake.sight;
            case 7: return lake.tapeLength;
            case 8: return lake.waitingCount;
            case 9: return voices.traceLength;
            case 10: return lake.z;
            default: return refuse(BEYOND);
        }
    }

    public int told(int k) {
        if (isOutside(k, BEYOND, KIND)) {
            return refuse(BEYOND);
        }
        return errorCounts[k];
    }

    // ---- what several of them need

    private int refuse(int error) {
        if (!isOutside(error, BEYOND, KIND)) {
            errorCounts[error]++;
        }
        return LOW - error;
    }

    private Sheet sheetAt(int i) {
        return isOutside(i, 0, SHEETS - 1) ? null : sheets[i];
    }

    /** The ERROR by which year() would refuse two; 0 if it wouldn't. */
    private int whyNoYear(int one, int other) {
        if (!areUnlike(lake.swimmerAt(one), lake.swimmerAt(other))) {
            return BEYOND;
        }
        return lake.year >= LAST_YEAR ? STATE : 0;
    }

    private void letYearGoBy(int one, int other) {
        Swimmer a = lake.swimmerAt(one);
        Swimmer b = lake.swimmerAt(other);
        if (!areUnlike(a, b)) {
            return;
        }
        swim.feel(lake, lake.wind);
        if (swim.meets(a, b, lake.sight)) {
            lake.border = swim.place;
            a.met = Math.min(MOST_MET, a.met + 1);
            b.met = Math.min(MOST_MET, b.met + 1);
        }
        lake.share();
        lake.year++;
    }

    /** Whether two would MEET if both kept to one LANE; swim then tells where. */
    private boolean meetInLane(int lane, Swimmer a, Swimmer b) {
        standIn.copy(a);
        standIn.keepTo(lane);
        otherStandIn.copy(b);
        otherStandIn.keepTo(lane);
        return swim.meets(standIn, otherStandIn, lake.sight);
    }

    /** In any LANE but this one the other one is missed, which is as if they met at BORDER. */
    private int worstPlaceIn(int lane, Swimmer a, Swimmer b) {
        int border = lake.border;
        if (meetInLane(lane, a, b) && isBetter(a.side, border, swim.place)) {
            return swim.place;
        }
        return border;
    }

    private static boolean isOutside(int v, int least, int most) {
        return v < least || v > most;
    }

    private static int heldWithin(int v, int least, int most) {
        return Math.max(least, Math.min(most, v));
    }

    private static boolean isUnder(int kind, int top) {
        int k = kind;
        for (int i = 0; i < KINDS && !isOutside(k, 0, KINDS - 1); i++) {
            if (k == top) {
                return true;
            }
            k = ABOVE[k];
        }
        return false;
    }

    private static boolean areUnlike(Swimmer a, Swimmer b) {
        return a != null && b != null && a.side != b.side;
    }

    private static boolean isBetter(int side, int place, int than) {
        return side == 0 ? place > than : place < than;
    }

    /** All that an IMAGE keeps. */
    private static final class Lake {
        final int[] currents = new int[LANES];
        int wind = 0;
        int sight = 10;
        int border = 600;
        int year = 0;
        int fish = 0;
        int otherFish = 0;
        final Swimmer[] swimmers = new Swimmer[MOST_SWIMMERS];
        int swimmerCount = 0;
        final Law flows = new Law(FLOWS);
        final Law catches = new Law(CATCH);
        final int[] tape = new int[TAPE_LENGTH];
        int tapeLength = 0;
        final int[] waiting = new int[MOST_WAITING];
        int waitingCount = 0;
        int z = 1;

        Lake() {
            for (int i = 0; i < swimmers.length; i++) {
                swimmers[i] = new Swimmer();
            }
        }

        /** Null: there is none of that number. */
        Swimmer swimmerAt(int number) {
            if (isOutside(number, 0, swimmerCount - 1) || number >= swimmers.length) {
                return null;
            }
            return swimmers[number];
        }

        /** Null: there is no such USE. */
        Law lawOf(int use) {
            if (use == FLOWS) {
                return flows;
            }
            return use == CATCH ? catches : null;
        }

        int flowOf(int lane, int withWind) {
            if (isOutside(lane, 0, LANES - 1)) {
                return 0;
            }
            return flows.give(currents[lane], withWind, lane);
        }

        void addToTape(long word, int n) {
            for (int i = 0; i < n && tapeLength < tape.length; i++) {
                tape[tapeLength] = (int) (word >>> (8 * i)) & 255;
                tapeLength++;
            }
        }

        int draw() {
            z = z * 1103515245 + 12345;
            return z >>> 8;
        }

        /** FISH of a YEAR come to both SIDES. */
        void share() {
            int caught = catches.give(border, year, wind);
            fish = Math.min(MOST_FISH, fish + caught);
            otherFish = Math.min(MOST_FISH, otherFish + MOST_CATCH - caught);
        }

        void copy(Lake from) {
            wind = from.wind;
            sight = from.sight;
            border = from.border;
            year = from.year;
            fish = from.fish;
            otherFish = from.otherFish;
            swimmerCount = from.swimmerCount;
            tapeLength = from.tapeLength;
            waitingCount = from.waitingCount;
            z = from.z;
            flows.copy(from.flows);
            catches.copy(from.catches);
            System.arraycopy(from.currents, 0, currents, 0, LANES);
            System.arraycopy(from.tape, 0, tape, 0, TAPE_LENGTH);
            System.arraycopy(from.waiting, 0, waiting, 0, MOST_WAITING);
            for (int i = 0; i < swimmerCount; i++) {
                Swimmer mine = swimmerAt(i);
                Swimmer theirs = from.swimmerAt(i);
                if (mine != null && theirs != null) {
                    mine.copy(theirs);
                }
            }
        }
    }

    private static final class Swimmer {
        int kind = 0;
        int m = 0;
        int side = 0;
        int skill = 0;
        int met = 0;
        final int[] lanes = new int[PLAN_PARTS];

        void begin(int km, int ofSide) {
            turnInto(km);
            side = ofSide;
            skill = 10;
            met = 0;
            keepTo(0);
        }

        void turnInto(int km) {
            kind = km / 10;
            m = km % 10;
        }

        void keepTo(int lane) {
            for (int i = 0; i < lanes.length; i++) {
                lanes[i] = lane;
            }
        }

        void copy(Swimmer from) {
            kind = from.kind;
            m = from.m;
            side = from.side;
            skill = from.skill;
            met = from.met;
            System.arraycopy(from.lanes, 0, lanes, 0, PLAN_PARTS);
        }

        int shore() {
            return side == 0 ? 0 : FAR_SHORE;
        }

        int laneOf(int part) {
            return part < 0 || part >= lanes.length ? 0 : lanes[part];
        }

        int laneIn(int minute) {
            int part = minute / PART_MINUTES;
            return laneOf(part < PLAN_PARTS ? part : PLAN_PARTS - 1);
        }

        int paceIn(int minute) {
            int plain = plainPace(minute);
            int sprint = minute < m ? plain + 20 : plain / 2;
            switch (kind) {
                case SPRINTER: return sprint;
                case GREASED: return plain + m;
                case DRIFTER: return 5;
                case DECOY: return minute <= 3 ? 0 : sprint;
                case STEADY: return plainPace(0) + m;
                case CRAMPED: return minute % 10 == m ? 0 : 5;
                default: return plain;
            }
        }

        private int plainPace(int minute) {
            int pace = 20 + skill - minute / 4;
            return pace < 5 ? 5 : pace;
        }
    }

    /** What a USE gives: by its TEXT, kept as a row in which each sign stands behind what it joins. */
    private static final class Law {
        private static final int NOT = -'!';

        private final int use;
        private final int[] row = new int[TAPE_LENGTH];
        private final int[] stack = new int[TAPE_LENGTH];
        /** 0: there is no TEXT. */
        private int length = 0;

        Law(int use) {
            this.use = use;
        }

        void take(Reader reader) {
            length = reader.rowLength;
            System.arraycopy(reader.row, 0, row, 0, TAPE_LENGTH);
        }

        void copy(Law from) {
            length = from.length;
            System.arraycopy(from.row, 0, row, 0, TAPE_LENGTH);
        }

        int give(int a, int b, int c) {
            if (use == FLOWS) {
                return heldWithin(length > 0 ? workOut(a, b, c) : a + 2 * b, -30, 30);
            }
            return heldWithin(length > 0 ? workOut(a, b, c) : a / 12, 0, MOST_CATCH);
        }

        private int workOut(int a, int b, int c) {
            int height = 0;
            for (int i = 0; i < length && i < row.length; i++) {
                int item = row[i];
                if (item > Reader.LAST_SIGN) {
                    if (height < stack.length) {
                        stack[height] = valueOf(item, a, b, c);
                        height++;
                    }
                } else if (item == NOT) {
                    if (height >= 1) {
                        stack[height - 1] = stack[height - 1] == 0 ? 1 : 0;
                    }
                } else if (height >= 2) {
                    height--;
                    stack[height - 1] = joined(item, stack[height - 1], stack[height]);
                }
            }
            return stack[0];
        }

        private static int valueOf(int item, int a, int b, int c) {
            switch (item) {
                case -1: return a;
                case -2: return b;
                case -3: return c;
                default: return item;
            }
        }

        private static int joined(int sign, int left, int right) {
            switch (sign) {
                case -'|': return left != 0 || right != 0 ? 1 : 0;
                case -'&': return left != 0 && right != 0 ? 1 : 0;
                case -'<': return left < right ? 1 : 0;
                case -'=': return left == right ? 1 : 0;
                case -'>': return left > right ? 1 : 0;
                case -'+': return left + right;
                case -'-': return left - right;
                case -'*': return left * right;
                case -'/': return right == 0 ? 0 : left / right;
                default: return right == 0 ? 0 : left % right;
            }
        }
    }

    /**
     * Reads THE TAPE into a row for a Law: a NUMBER stands as itself, a NAME as -1, -2, -3, a sign as
     * the number of its byte below 0. Each readX() leaves place at the FAULT when it answers false.
     */
    private static final class Reader {
        /** Items up to this one are signs: no sign's byte is below that of '!'. */
        static final int LAST_SIGN = -'!';
        private static final int MOST_OPEN = 5;
        private static final int MOST_DIGITS = 4;

        final int[] row = new int[TAPE_LENGTH];
        int rowLength = 0;
        private final int[] bytes = new int[TAPE_LENGTH];
        private int length = 0;
        private int place = 0;
        private String names = "";

        /** The FAULT; -1 if there is none. */
        int read(int[] tape, int tapeLength, int use) {
            length = Math.min(Math.min(tapeLength, tape.length), TAPE_LENGTH);
            System.arraycopy(tape, 0, bytes, 0, length);
            names = use == FLOWS ? "cwl" : "byw";
            place = 0;
            rowLength = 0;
            return readAny(0) && place == length ? -1 : place;
        }

        /** -1 behind the last byte. */
        private int next() {
            return place < 0 || place >= length || place >= bytes.length ? -1 : bytes[place];
        }

        private void add(int item) {
            if (rowLength < row.length) {
                row[rowLength] = item;
                rowLength++;
            }
        }

        private boolean readAny(int open) {
            if (!readAll(open)) {
                return false;
            }
            while (place < length && next() == '|') {
                place++;
                if (!readAll(open)) {
                    return false;
                }
                add(-'|');
            }
            return true;
        }

        private boolean readAll(int open) {
            if (!readComparison(open)) {
                return false;
            }
            while (place < length && next() == '&') {
                place++;
                if (!readComparison(open)) {
                    return false;
                }
                add(-'&');
            }
            return true;
        }

        private boolean readComparison(int open) {
            if (!readSum(open)) {
                return false;
            }
            int sign = next();
            if (sign == '<' || sign == '=' || sign == '>') {
                place++;
                if (!readSum(open)) {
                    return false;
                }
                add(-sign);
            }
            return true;
        }

        private boolean readSum(int open) {
            if (!readProduct(open)) {
                return false;
            }
            while (place < length && (next() == '+' || next() == '-')) {
                int sign = next();
                place++;
                if (!readProduct(open)) {
                    return false;
                }
                add(-sign);
            }
            return true;
        }

        private boolean readProduct(int open) {
            if (!readPart(open)) {
                return false;
            }
            while (place < length && (next() == '*' || next() == '/' || next() == '%')) {
                int sign = next();
                place++;
                if (!readPart(open)) {
                    return false;
                }
                add(-sign);
            }
            return true;
        }

        private boolean readPart(int open) {
            int sign = next();
            if (isDigit(sign)) {
                readNumber();
                return true;
            }
            int name = sign < 0 ? -1 : names.indexOf((char) sign);
            if (name >= 0) {
                place++;
                add(-1 - name);
                return true;
            }
            if (open >= MOST_OPEN || (sign != '!' && sign != '(')) {
                return false;
            }
            place++;
            if (sign == '!') {
                return readNot(open + 1);
            }
            return readBracket(open + 1);
        }

        private boolean readNot(int open) {
            if (!readPart(open)) {
                return false;
            }
            add(-'!');
            return true;
        }

        private boolean readBracket(int open) {
            if (!readAny(open) || next() != ')') {
                return false;
            }
            place++;
            return true;
        }

        private void readNumber() {
            int number = 0;
            for (int i = 0; i < MOST_DIGITS && isDigit(next()); i++) {
                number = number * 10 + next() - '0';
                place++;
            }
            add(number);
        }

        private static boolean isDigit(int sign) {
            return sign >= '0' && sign <= '9';
        }
    }

    /** A SWIM of two, by the FLOWS that were felt last. */
    private static final class Swim {
        final int[] flows = new int[LANES];
        int minute = 0;
        int place = 0;
        int lane = 0;
        private int oneAt = 0;
        private int otherAt = 0;

        void feel(Lake lake, int wind) {
            for (int i = 0; i < flows.length; i++) {
                flows[i] = lake.flowOf(i, wind);
            }
        }

        int flowIn(int ofLane) {
            return isOutside(ofLane, 0, flows.length - 1) ? 0 : flows[ofLane];
        }

        int placeNext(Swimmer s, int at, int inMinute) {
            int pace = s.paceIn(inMinute);
            int way = s.side == 0 ? pace : -pace;
            return heldWithin(at + way + flowIn(s.laneIn(inMinute)), 0, FAR_SHORE);
        }

        int placeBehind(Swimmer s, int minutes) {
            int at = s.shore();
            for (int t = 0; t < minutes; t++) {
                at = placeNext(s, at, t);
            }
            return at;
        }

        /** Whether two of unlike SIDES MEET; if so, minute, place and lane tell where. */
        boolean meets(Swimmer one, Swimmer other, int sight) {
            begin(one, other);
            for (int t = 0; t < MINUTES; t++) {
                oneAt = placeNext(one, oneAt, t);
                otherAt = placeNext(other, otherAt, t);
                if (one.laneIn(t) == other.laneIn(t) && gap(one) <= sight) {
                    minute = t;
                    place = (oneAt + otherAt) / 2;
                    lane = one.laneIn(t);
                    return true;
                }
            }
            return false;
        }

        /** The least that two of unlike SIDES are apart in one LANE; FAR_SHORE if they never are in one. */
        int leastGap(Swimmer one, Swimmer other) {
            int least = FAR_SHORE;
            begin(one, other);
            for (int t = 0; t < MINUTES; t++) {
                oneAt = placeNext(one, oneAt, t);
                otherAt = placeNext(other, otherAt, t);
                if (one.laneIn(t) == other.laneIn(t)) {
                    least = Math.min(least, Math.max(0, gap(one)));
                }
            }
            return least;
        }

        private void begin(Swimmer one, Swimmer other) {
            oneAt = one.shore();
            otherAt = other.shore();
        }

        /** How far the one of side 1 is beyond the one of side 0; below 0 when it has been passed. */
        private int gap(Swimmer one) {
            return one.side == 0 ? otherAt - oneAt : oneAt - otherAt;
        }
    }

    /** BEST PLAN: tries PLANS part by part, in their order as rows. */
    private static final class PlanSearch {
        boolean found = false;
        int place = 0;
        private final int[] best = new int[PLAN_PARTS];
        private final Swimmer tried = new Swimmer();
        private final int[] otherPlaces = new int[MINUTES];
        private Swim swim = null;
        private Swimmer other = null;
        private int sight = 0;

        int bestLane(int part) {
            return isOutside(part, 0, best.length - 1) ? 0 : best[part];
        }

        void seek(Swim bySwim, Swimmer one, Swimmer against, int bySight) {
            swim = bySwim;
            other = against;
            sight = bySight;
            found = false;
            place = 0;
            tried.copy(one);
            int at = against.shore();
            for (int t = 0; t < otherPlaces.length; t++) {
                at = bySwim.placeNext(against, at, t);
                otherPlaces[t] = at;
            }
            tryLanes(0, tried.shore());
        }

        /** Tries all LANES of a part, from where the parts ahead have led. */
        private void tryLanes(int part, int from) {
            if (isOutside(part, 0, PLAN_PARTS - 1) || swim == null || other == null) {
                return;
            }
            boolean isLast = part == PLAN_PARTS - 1;
            for (int lane = 0; lane < LANES; lane++) {
                // The other one stays in one lane through the last part: in any other it is missed.
                if (isLast && lane != other.laneOf(part)) {
                    continue;
                }
                setLane(part, lane);
                int at = from;
                boolean met = false;
                int end = isLast ? MINUTES : (part + 1) * PART_MINUTES;
                for (int t = part * PART_MINUTES; t < end && !met; t++) {
                    at = swim.placeNext(tried, at, t);
                    met = meetsAt(at, t);
                }
                if (!met && !isLast) {
                    tryLanes(part + 1, at);
                }
            }
        }

        /** The parts behind are 0 then: whichever they are, the swim has ended. */
        private void setLane(int part, int lane) {
            for (int i = Math.max(0, part); i < PLAN_PARTS; i++) {
                tried.lanes[i] = i == part ? lane : 0;
            }
        }

        private boolean meetsAt(int at, int t) {
            if (other == null || isOutside(t, 0, otherPlaces.length - 1)
                    || tried.laneIn(t) != other.laneIn(t)) {
                return false;
            }
            int otherAt = otherPlaces[t];
            int gap = tried.side == 0 ? otherAt - at : at - otherAt;
            if (gap > sight) {
                return false;
            }
            int middle = (at + otherAt) / 2;
            if (!found || isBetter(tried.side, middle, place)) {
                found = true;
                place = middle;
                System.arraycopy(tried.lanes, 0, best, 0, PLAN_PARTS);
            }
            return true;
        }
    }

    /** VOICES of a SWIMMER, and THE TRACE of the BODIES that began. */
    private static final class Voices {
        static final int ACTS = 4;
        private static final int SWIMS = 0;
        private static final int BREATHES = 1;
        private static final int TIRES = 2;
        private static final int TELLS = 3;
        private static final int DEEPEST = 40;
        /** The BODY of each KIND for each act; 0: it has none. */
        private static final int[] BODIES = {
            10, 11, 12, 13,
            0, 20, 0, 0,
            30, 0, 0, 0,
            0, 0, 40, 0,
            0, 50, 0, 0,
            0, 0, 0, 60,
            0, 0, 70, 71};

        final int[] trace = new int[40];
        int traceLength = 0;
        private int kind = 0;
        private int n = 0;
        private int m = 0;

        int speak(Swimmer s, int number, int act, int x) {
            kind = s.kind;
            m = s.m;
            n = number;
            traceLength = 0;
            return say(kind, act, x, 0);
        }

        /** The voice of the nearest BODY from a KIND upwards. */
        private int say(int from, int act, int x, int depth) {
            if (depth > DEEPEST) {
                return 0;
            }
            int body = bodyOf(from, act);
            note(body);
            int d = depth + 1;
            switch (body) {
                case 10: return x + n;
                case 11: return say(kind, SWIMS, x, d) * 2;
                case 12: return x - m;
                case 13: return say(kind, BREATHES, x, d) ^ say(kind, TIRES, x, d);
                case 20: return say(SWIMMER, BREATHES, x, d) - say(kind, TIRES, 1, d);
                case 30: return say(SWIMMER, SWIMS, x, d) * 3;
                case 40: return -say(SWIMMER, TIRES, x, d);
                case 50: return say(SPRINTER, BREATHES, x + 1, d);
                case 60: return say(GREASED, TELLS, x, d) - say(kind, SWIMS, 2, d);
                case 70: return say(DRIFTER, TIRES, x, d) ^ n;
                case 71: return say(kind, BREATHES, x, d) - say(DRIFTER, TELLS, x, d);
                default: return 0;
            }
        }

        private static int bodyOf(int from, int act) {
            int k = from;
            for (int i = 0; i < KINDS && !isOutside(k, 0, KINDS - 1); i++) {
                int at = k * ACTS + act;
                if (!isOutside(at, 0, BODIES.length - 1) && BODIES[at] != 0) {
                    return BODIES[at];
                }
                k = ABOVE[k];
            }
            return 0;
        }

        private void note(int body) {
            if (traceLength < trace.length) {
                trace[traceLength] = body;
                traceLength++;
            }
        }
    }

    private static final class Sheet {
        final int[] numbers = new int[SHEET_LENGTH];
        int length = 0;
        /** 0: it is missing. */
        int bits = 0;

        void clear(int ofBits, int n) {
            bits = ofBits;
            length = heldWithin(n, 0, SHEET_LENGTH);
            for (int i = 0; i < numbers.length; i++) {
                numbers[i] = 0;
            }
        }

        boolean isMissing() {
            return bits == 0;
        }

        int read(int i) {
            return isOutside(i, 0, numbers.length - 1) ? 0 : numbers[i];
        }

        void write(int i, int v) {
            if (isOutside(i, 0, numbers.length - 1)) {
                return;
            }
            if (bits == 8) {
                numbers[i] = (byte) v;
            } else if (bits == 16) {
                numbers[i] = (short) v;
            } else {
                numbers[i] = v;
            }
        }

        boolean holds(int i, int n) {
            return i >= 0 && n >= 0 && i <= length && n <= length - i;
        }
    }
}
