import java.util.Arrays;

/** A course of miles, its runners and their rabbits, and what can be asked of their races. */
public final class PaceStore {
    public static final int NONE = -1000000, BAD = -1000001, STATE = -1000002, FULL = -1000003;

    private static final int FINDING = -1000010, FAULTY = -1000100;
    private static final int NULL = 1, PLACE = 2, KIND = 3, SIZE = 4, STORE = 5;

    private static final int SHEETS = 8, ITEMS = 40, IMAGES = 2;
    private static final int MILES = 12, RUNNERS = 4, RULES = 6, RABBITS = 5, SETS_OF_RABBITS = 32;
    private static final int SLOWEST = 10, FASTEST = 40, PACES = 31;
    private static final int MOST_STORE = 99, LOWEST_LINE = 10, HIGHEST_LINE = 60, MOST_SEED = 999999;
    private static final int MOST_COIN = 999, MOST_STEPS_EARLY = 20, MOST_HOURS = 24, HOTTEST = 20;
    private static final int PLANS = 4, HELPS = 4, SETS_OF_HELPS = 16, LONGEST_TIME = 99999;
    private static final int ALL_ORDERS = 24;

    /** By how many helps come ahead of one: in how many of all orders just these do. */
    private static final int[] ORDERS_BEHIND = {6, 2, 2, 6};

    /** Far above every time that can be run, and low enough that a mile can be added to it. */
    private static final int NEVER = 1000000000;

    private final Sheet[] sheets = new Sheet[SHEETS];
    private final Reader reader = new Reader();
    private final Course course = new Course();
    private final Results results = new Results();
    private final Course[] keptCourses = new Course[IMAGES];
    private final Results[] keptResults = new Results[IMAGES];
    private final Field field = new Field();
    private final Alone alone = new Alone();
    private final Game game = new Game();
    private final Step step = new Step();
    private int status;

    public PaceStore() {
        for (int i = 0; i < SHEETS; i++) {
            sheets[i] = new Sheet();
        }
        for (int k = 0; k < IMAGES; k++) {
            keptCourses[k] = new Course();
            keptResults[k] = new Results();
        }
    }

    // ---- sheets

    public int sheet(int sheet, int lane, int n) {
        if (!within(sheet, 0, SHEETS - 1) || !within(lane, Sheet.BYTES, Sheet.INTS) || n > ITEMS) {
            return BAD;
        }
        if (n < 0) {
            return found(SIZE);
        }
        sheets[sheet].begin(lane, n);
        return foundNothing(n);
    }

    public int set(int sheet, int i, int v) {
        if (!within(sheet, 0, SHEETS - 1)) {
            return BAD;
        }
        int finding = findingAt(sheet, i, 1);
        if (finding != 0) {
            return found(finding);
        }
        return foundNothing(sheets[sheet].put(i, v));
    }

    public int copy(int a, int i, int b, int j, int n) {
        if (!within(a, 0, SHEETS - 1) || !within(b, 0, SHEETS - 1)) {
            return BAD;
        }
        Sheet from = sheets[a];
        Sheet to = sheets[b];
        if (from.isMissing() || to.isMissing()) {
            return found(NULL);
        }
        if (from.lane != to.lane) {
            return found(STORE);
        }
        if (!from.reaches(i, n) || !to.reaches(j, n)) {
            return found(PLACE);
        }
        System.arraycopy(from.items, i, to.items, j, n);
        return foundNothing(n);
    }

    public int drop(int sheet) {
        if (!within(sheet, 0, SHEETS - 1)) {
            return BAD;
        }
        if (sheets[sheet].isMissing()) {
            return found(NULL);
        }
        int had = sheets[sheet].size;
        sheets[sheet].end();
        return foundNothing(had);
    }

    // ---- courses, races

    public int feed(long w, int n) {
        if (!within(n, 1, 8)) {
            return BAD;
        }
        return reader.takes(w, n) ? reader.length : FULL;
    }

    public int course() {
        boolean isFaultless = reader.readsAll();
        reader.length = 0;
        if (!isFaultless) {
            return FAULTY - reader.first;
        }
        course.become(reader.draft);
        results.isThere = false;
        return course.miles;
    }

    public int fault() {
        return reader.fault;
    }

    public int need(int mile, int pace, int sheltered) {
        if (!course.hasMile(mile) || !isPace(pace) || !within(sheltered, 0, 1)) {
            return BAD;
        }
        return course.needOf(mile, pace, sheltered == 1, 0);
    }

    public int race(int sheet, int i, int seed) {
        if (!within(sheet, 0, SHEETS - 1) || !within(seed, 0, MOST_SEED)) {
            return BAD;
        }
        if (!course.isThere) {
            return STATE;
        }
        int finding = findingAt(sheet, i, course.runners);
        if (finding != 0) {
            return found(finding);
        }
        if (!itemsWithin(sheets[sheet], i, course.runners, SLOWEST, FASTEST)) {
            return BAD;
        }
        field.runAll(course, sheets[sheet], i, seed, results);
        return foundNothing(results.runnerAt(0));
    }

    public int ran(int runner, int mile, int what) {
        if (!course.hasRunner(runner) || !course.hasMile(mile) || !within(what, Results.SECONDS, Results.TIME)) {
            return BAD;
        }
        return results.isThere ? results.told(what, runner, mile) : STATE;
    }

    public int place(int runner) {
        if (!course.hasRunner(runner)) {
            return BAD;
        }
        return results.isThere ? results.places[runner] : STATE;
    }

    // ---- alone

    public int best(int runner, int rabbits, int k) {
        if (!course.hasRunner(runner) || !course.hasRabbits(rabbits) || k < -1) {
            return BAD;
        }
        alone.face(course, runner, rabbits);
        int time = alone.leastTime();
        if (time >= NEVER || k >= course.miles) {
            return NONE;
        }
        return k < 0 ? time : alone.paceOfBest(k);
    }

    public int even(int runner, int rabbits, int what) {
        if (!course.hasRunner(runner) || !course.hasRabbits(rabbits) || !within(what, 0, 1)) {
            return BAD;
        }
        alone.face(course, runner, rabbits);
        int pace = alone.evenPace();
        if (pace == 0) {
            return NONE;
        }
        return what == 0 ? pace : course.miles * secondsBy(pace);
    }

    public int early(int runner, int d) {
        if (!course.hasRunner(runner) || !within(d, 1, MOST_STEPS_EARLY)) {
            return BAD;
        }
        alone.face(course, runner, 0);
        int time = alone.leastTime();
        if (time >= NEVER) {
            return NONE;
        }
        int pace = Math.min(alone.paceOfBest(0) + d, FASTEST);
        int hasty = alone.leastFrom(pace);
        return hasty >= NEVER ? NONE : hasty - time;
    }

    public int hired(int runner, int coin, int what) {
        if (!course.hasRunner(runner) || !within(coin, 0, MOST_COIN) || !within(what, 0, 2)) {
            return BAD;
        }
        int time = NEVER;
        int cost = 0;
        int hired = 0;
        for (int set = 0; set < SETS_OF_RABBITS && course.hasRabbits(set); set++) {
            int costOfSet = course.costOf(set);
            if (costOfSet > coin) {
                continue;
            }
            alone.face(course, runner, set);
            int timeBySet = alone.leastTime();
            if (timeBySet < time || (timeBySet == time && costOfSet < cost)) {
                time = timeBySet;
                cost = costOfSet;
                hired = set;
            }
        }
        if (time >= NEVER) {
            return NONE;
        }
        return what == 0 ? hired : what == 1 ? time : cost;
    }

    public int stays(int runner, int rabbit) {
        if (!course.hasRunner(runner) || !within(rabbit, 0, course.rabbits - 1)) {
            return BAD;
        }
        alone.face(course, runner, 0);
        int till = Math.min(course.tills[rabbit], course.miles);
        int left = alone.leftAfterEven(course.rabbitPaces[rabbit], till);
        if (left < 0) {
            return NONE;
        }
        alone.solve();
        int rest = alone.least[till][left];
        return rest >= NEVER ? NONE : till * secondsBy(course.rabbitPaces[rabbit]) + rest;
    }

    // ---- games, splits, records

    public int rests(int a, int b, int i) {
        if (!course.hasRunner(a) || !course.hasRunner(b) || a == b || i < -1) {
            return BAD;
        }
        game.playAll(course, a, b);
        int seen = 0;
        for (int plans = 0; plans < PLANS * PLANS; plans++) {
            if (game.restsAt(plans)) {
                if (seen == i) {
                    return plans;
                }
                seen++;
            }
        }
        return i < 0 ? seen : NONE;
    }

    public int wins(int a, int b, int planA, int planB) {
        if (!course.hasRunner(a) || !course.hasRunner(b) || a == b) {
            return BAD;
        }
        if (!within(planA, 0, PLANS - 1) || !within(planB, 0, PLANS - 1)) {
            return BAD;
        }
        int score = game.play(course, a, b, planA, planB);
        return score > 0 ? 0 : score < 0 ? 1 : NONE;
    }

    public int line(int runner, int sheet, int i) {
        if (!course.isThere) {
            return STATE;
        }
        if (!within(sheet, 0, SHEETS - 1) || !course.hasRunner(runner)) {
            return BAD;
        }
        int finding = findingAt(sheet, i, course.miles);
        if (finding != 0) {
            return found(finding);
        }
        return foundNothing(leastLine(runner, sheets[sheet], i));
    }

    private int leastLine(int runner, Sheet splits, int i) {
        alone.face(course, runner, 0);
        for (int line = LOWEST_LINE; line <= HIGHEST_LINE; line++) {
            alone.takeLine(line);
            if (alone.leftAfterSplits(splits, i) >= 0) {
                return line;
            }
        }
        return NONE;
    }

    public int parts(int sheet, int i, int help, int what) {
        if (!within(sheet, 0, SHEETS - 1) || !within(help, 0, HELPS - 1) || !within(what, 0, 1)) {
            return BAD;
        }
        int finding = findingAt(sheet, i, SETS_OF_HELPS);
        if (finding != 0) {
            return found(finding);
        }
        if (!itemsWithin(sheets[sheet], i, SETS_OF_HELPS, 0, LONGEST_TIME)) {
            return BAD;
        }
        int above = takenOffInAllOrders(sheets[sheet], i, help);
        int common = commonDivisor(Math.abs(above), ALL_ORDERS);
        if (common < 1) {
            return foundNothing(NONE);
        }
        return foundNothing(what == 0 ? above / common : ALL_ORDERS / common);
    }

    private static int takenOffInAllOrders(Sheet times, int i, int help) {
        int bit = 1 << help;
        int sum = 0;
        for (int set = 0; set < SETS_OF_HELPS; set++) {
            int ahead = Integer.bitCount(set);
            if ((set & bit) == 0 && ahead < HELPS) {
                sum += ORDERS_BEHIND[ahead] * (times.at(i + set) - times.at(i + (set | bit)));
            }
        }
        return sum;
    }

    /** Of a number and one above 0; of 0 and that one, that one. */
    private static int commonDivisor(int a, int b) {
        int high = a;
        int low = b;
        for (int round = 0; round < 100 && high != 0; round++) {
            int rest = low % high;
            low = high;
            high = rest;
        }
        return low;
    }

    public int hour(int runner, int sheet, int i, int n, int what) {
        if (!course.hasRunner(runner) || !within(sheet, 0, SHEETS - 1)) {
            return BAD;
        }
        if (!within(n, 1, MOST_HOURS) || !within(what, 0, 1)) {
            return BAD;
        }
        int finding = findingAt(sheet, i, n + 2);
        if (finding != 0) {
            return found(finding);
        }
        if (!itemsWithin(sheets[sheet], i, n + 2, 0, HOTTEST)) {
            return BAD;
        }
        return foundNothing(bestHour(runner, sheets[sheet], i, n, what));
    }

    private int bestHour(int runner, Sheet heats, int i, int n, int what) {
        int time = NEVER;
        int which = 0;
        for (int hour = 0; hour < n; hour++) {
            alone.faceHour(course, runner, heats, i + hour);
            int timeThen = alone.leastTime();
            if (timeThen < time) {
                time = timeThen;
                which = hour;
            }
        }
        if (time >= NEVER) {
            return NONE;
        }
        return what == 0 ? which : time;
    }

    public int feeling(int runner, int pace, int what) {
        if (!course.hasRunner(runner) || !isPace(pace) || !within(what, 0, 1)) {
            return BAD;
        }
        int time = NEVER;
        int rules = 0;
        for (int tried = 0; tried < 100; tried++) {
            int timeSo = field.timeByFeeling(course, runner, pace, tried / 10 * 10, tried % 10 * 10);
            if (timeSo < time) {
                time = timeSo;
                rules = tried;
            }
        }
        return what == 0 ? rules : time;
    }

    public int image(int k) {
        if (!within(k, 0, IMAGES - 1)) {
            return BAD;
        }
        if (!course.isThere) {
            return STATE;
        }
        keptCourses[k].become(course);
        keptResults[k].become(results);
        return 1;
    }

    public int restore(int k) {
        if (!within(k, 0, IMAGES - 1)) {
            return BAD;
        }
        if (!keptCourses[k].isThere) {
            return STATE;
        }
        course.become(keptCourses[k]);
        results.become(keptResults[k]);
        return 1;
    }

    // ---- asked

    public int kind(int runner, int mile) {
        if (!course.hasRunner(runner) || !course.hasMile(mile)) {
            return BAD;
        }
        return results.isThere ? results.kindOf(runner, mile) : STATE;
    }

    public int as(int runner, int mile, int kind) {
        if (!course.hasRunner(runner) || !course.hasMile(mile) || !within(kind, Step.ANY, Step.SURGED)) {
            return BAD;
        }
        if (!results.isThere) {
            return STATE;
        }
        if (!Step.isOne(results.kindOf(runner, mile), kind)) {
            return found(KIND);
        }
        return foundNothing(results.told(Results.SECONDS, runner, mile));
    }

    public int ask(int runner, int mile, int what) {
        if (!course.hasRunner(runner) || !course.hasMile(mile) || !within(what, 0, 1)) {
            return BAD;
        }
        if (!results.isThere) {
            return STATE;
        }
        step.take(results, runner, mile);
        return what == 0 ? step.size() : step.mark();
    }

    public int trace(int i) {
        return within(i, 0, step.traced - 1) ? step.numbers[i] : NONE;
    }

    public int count(int what) {
        switch (what) {
            case 0:
                return sheetsThere();
            case 1:
                return course.miles;
            case 2:
                return course.runners;
            case 3:
                return course.rabbits;
            case 4:
                return course.rulesOfAll();
            case 5:
                return reader.length;
            case 6:
                return results.isThere ? 1 : 0;
            default:
                return BAD;
        }
    }

    public int status() {
        return status;
    }

    private int sheetsThere() {
        int there = 0;
        for (int i = 0; i < SHEETS; i++) {
            if (!sheets[i].isMissing()) {
                there++;
            }
        }
        return there;
    }

    private int found(int finding) {
        status = finding;
        return FINDING - finding;
    }

    private int foundNothing(int answer) {
        status = 0;
        return answer;
    }

    private int findingAt(int sheet, int i, int n) {
        if (sheets[sheet].isMissing()) {
            return NULL;
        }
        return sheets[sheet].reaches(i, n) ? 0 : PLACE;
    }

    private static boolean itemsWithin(Sheet sheet, int i, int n, int low, int high) {
        for (int k = 0; k < n; k++) {
            if (!within(sheet.at(i + k), low, high)) {
                return false;
            }
        }
        return true;
    }

    private static boolean within(int v, int low, int high) {
        return v >= low && v <= high;
    }

    private static boolean isPace(int v) {
        return within(v, SLOWEST, FASTEST);
    }

    private static int asPace(int v) {
        return Math.max(SLOWEST, Math.min(FASTEST, v));
    }

    private static int secondsBy(int pace) {
        return 12000 / Math.max(SLOWEST, pace);
    }

    /** What NEED does to a STORE: below 0, what it takes; else what it may fill. */
    private static int changeBy(int need, int line, int fill) {
        int above = need - line;
        return above > 0 ? -above * above : Math.min(fill, -above);
    }

    /** A row of items in a lane; a lane of -1 is none. */
    private static final class Sheet {
        static final int MISSING = -1, BYTES = 0, SHORTS = 1, INTS = 2;

        final int[] items = new int[ITEMS];
        int lane = MISSING;
        int size;

        boolean isMissing() {
            return lane == MISSING;
        }

        void begin(int newLane, int n) {
            Arrays.fill(items, 0);
            lane = newLane;
            size = n;
        }

        void end() {
            lane = MISSING;
            size = 0;
        }

        boolean reaches(int i, int n) {
            return i >= 0 && n >= 0 && i <= size - n;
        }

        int at(int i) {
            return within(i, 0, ITEMS - 1) ? items[i] : 0;
        }

        int put(int i, int v) {
            int cut = lane == BYTES ? (byte) v : lane == SHORTS ? (short) v : v;
            if (within(i, 0, ITEMS - 1)) {
                items[i] = cut;
            }
            return cut;
        }
    }

    /** Miles, runners with their rules, and rabbits, as a text told them. */
    private static final class Course {
        static final int OF_STORE = 0, OF_BEHIND = 1, OF_MILE = 2, BELOW = 0, ABOVE = 1;

        boolean isThere;
        int miles;
        final int[] hills = new int[MILES];
        final int[] heats = new int[MILES];
        final int[] winds = new int[MILES];
        int runners;
        final int[] lines = new int[RUNNERS];
        final int[] stores = new int[RUNNERS];
        final int[] fills = new int[RUNNERS];
        final int[] rules = new int[RUNNERS];
        final int[] ruleWhats = new int[RUNNERS * RULES];
        final int[] ruleSides = new int[RUNNERS * RULES];
        final int[] ruleNumbers = new int[RUNNERS * RULES];
        final int[] ruleSteps = new int[RUNNERS * RULES];
        int rabbits;
        final int[] rabbitPaces = new int[RABBITS];
        final int[] tills = new int[RABBITS];
        final int[] coins = new int[RABBITS];

        void clear() {
            miles = 0;
            runners = 0;
            rabbits = 0;
            Arrays.fill(rules, 0);
        }

        void become(Course other) {
            isThere = other.isThere;
            miles = other.miles;
            runners = other.runners;
            rabbits = other.rabbits;
            System.arraycopy(other.hills, 0, hills, 0, MILES);
            System.arraycopy(other.heats, 0, heats, 0, MILES);
            System.arraycopy(other.winds, 0, winds, 0, MILES);
            System.arraycopy(other.lines, 0, lines, 0, RUNNERS);
            System.arraycopy(other.stores, 0, stores, 0, RUNNERS);
            System.arraycopy(other.fills, 0, fills, 0, RUNNERS);
            System.arraycopy(other.rules, 0, rules, 0, RUNNERS);
            System.arraycopy(other.ruleWhats, 0, ruleWhats, 0, RUNNERS * RULES);
            System.arraycopy(other.ruleSides, 0, ruleSides, 0, RUNNERS * RULES);
            System.arraycopy(other.ruleNumbers, 0, ruleNumbers, 0, RUNNERS * RULES);
            System.arraycopy(other.ruleSteps, 0, ruleSteps, 0, RUNNERS * RULES);
            System.arraycopy(other.rabbitPaces, 0, rabbitPaces, 0, RABBITS);
            System.arraycopy(other.tills, 0, tills, 0, RABBITS);
            System.arraycopy(other.coins, 0, coins, 0, RABBITS);
        }

        boolean hasMile(int mile) {
            return within(mile, 0, miles - 1);
        }

        boolean hasRunner(int runner) {
            return within(runner, 0, runners - 1);
        }

        boolean hasRabbits(int set) {
            return within(set, 0, (1 << rabbits) - 1);
        }

        int rulesOfAll() {
            int sum = 0;
            for (int r = 0; r < runners; r++) {
                sum += rules[r];
            }
            return sum;
        }

        int costOf(int set) {
            int sum = 0;
            for (int r = 0; r < rabbits; r++) {
                sum += (set >> r & 1) * coins[r];
            }
            return sum;
        }

        int needOf(int mile, int pace, boolean isSheltered, int moreHeat) {
            int wind = isSheltered ? 0 : winds[mile] / 2;
            return pace + hills[mile] + (heats[mile] + moreHeat) / 2 + wind;
        }

        /** The greatest pace that spends nothing, or the slowest one. */
        int easyPace(int mile, int line) {
            int pace = FASTEST;
            while (pace > SLOWEST && needOf(mile, pace, false, 0) > line) {
                pace--;
            }
            return pace;
        }

        boolean isShelteredBy(int set, int mile, int pace) {
            for (int r = 0; r < rabbits; r++) {
                if ((set >> r & 1) == 1 && tills[r] > mile && rabbitPaces[r] == pace) {
                    return true;
                }
            }
            return false;
        }
    }

    /** The tape, and how a course is read off it. */
    private static final class Reader {
        private static final int LONGEST = 600;
        private static final int END = 0, NAME = 1, NUMBER = 2, SEMICOLON = 3, NO_TOKEN = 4;
        private static final int MISPLACED = 1, UNTOLD = 2, NO_ROOM = 3;

        final byte[] tape = new byte[LONGEST];
        final Course draft = new Course();
        int length;
        int fault;
        /** The token in hand: its first byte, the byte behind it, its sort, its value. */
        int first;
        int behind;
        int sort;
        int value;
        /** The latest number that stood where it was wanted. */
        int taken;

        boolean takes(long w, int n) {
            if (n > LONGEST - length) {
                return false;
            }
            for (int k = n - 1; k >= 0; k--) {
                tape[length] = (byte) (w >> 8 * k);
                length++;
            }
            return true;
        }

        boolean readsAll() {
            draft.clear();
            behind = 0;
            next();
            boolean goesOn = readsMile();
            for (int n = 0; n < LONGEST && goesOn && isWord("mile"); n++) {
                goesOn = readsMile();
            }
            goesOn = goesOn && readsRunner();
            for (int n = 0; n < LONGEST && goesOn && (isWord("runner") || isWord("when")); n++) {
                goesOn = isWord("when") ? readsRule(draft.runners - 1) : readsRunner();
            }
            for (int n = 0; n < LONGEST && goesOn && isWord("rabbit"); n++) {
                goesOn = readsRabbit();
            }
            draft.isThere = goesOn && (sort == END || fails(MISPLACED));
            return draft.isThere;
        }

        private boolean readsMile() {
            int m = draft.miles;
            if (!isWord("mile")) {
                return fails(MISPLACED);
            }
            if (m >= MILES) {
                return fails(NO_ROOM);
            }
            next();
            if (!readsNumber(-5, 5)) {
                return false;
            }
            draft.hills[m] = taken;
            if (!readsNumber(0, 9)) {
                return false;
            }
            draft.heats[m] = taken;
            if (!readsNumber(0, 9)) {
                return false;
            }
            draft.winds[m] = taken;
            draft.miles++;
            return readsSemicolon();
        }

        private boolean readsRunner() {
            int r = draft.runners;
            if (!isWord("runner")) {
                return fails(MISPLACED);
            }
            if (r >= RUNNERS) {
                return fails(NO_ROOM);
            }
            next();
            if (!readsNumber(10, 30)) {
                return false;
            }
            draft.lines[r] = taken;
            if (!readsNumber(1, MOST_STORE)) {
                return false;
            }
            draft.stores[r] = taken;
            if (!readsNumber(1, 9)) {
                return false;
            }
            draft.fills[r] = taken;
            draft.runners++;
            return readsSemicolon();
        }

        private boolean readsRule(int runner) {
            if (!draft.hasRunner(runner)) {
                return fails(MISPLACED);
            }
            if (draft.rules[runner] >= RULES) {
                return fails(NO_ROOM);
            }
            int rule = runner * RULES + draft.rules[runner];
            next();
            int what = isWord("store") ? Course.OF_STORE : isWord("behind") ? Course.OF_BEHIND : Course.OF_MILE;
            if (what == Course.OF_MILE && !isWord("mile")) {
                return fails(MISPLACED);
            }
            draft.ruleWhats[rule] = what;
            next();
            draft.ruleSides[rule] = isWord("above") ? Course.ABOVE : Course.BELOW;
            if (!isWord("above") && !isWord("below")) {
                return fails(MISPLACED);
            }
            next();
            if (!readsNumber(0, 999)) {
                return false;
            }
            draft.ruleNumbers[rule] = taken;
            int way = isWord("push") ? 1 : -1;
            if (!isWord("push") && !isWord("ease")) {
                return fails(MISPLACED);
            }
            next();
            if (!readsNumber(1, 9)) {
                return false;
            }
            draft.ruleSteps[rule] = way * taken;
            draft.rules[runner]++;
            return readsSemicolon();
        }

        private boolean readsRabbit() {
            int r = draft.rabbits;
            if (r >= RABBITS) {
                return fails(NO_ROOM);
            }
            next();
            if (!readsNumber(SLOWEST, FASTEST)) {
                return false;
            }
            draft.rabbitPaces[r] = taken;
            if (!readsNumber(1, 12)) {
                return false;
            }
            draft.tills[r] = taken;
            if (!readsNumber(0, 99)) {
                return false;
            }
            draft.coins[r] = taken;
            draft.rabbits++;
            return readsSemicolon();
        }

        private boolean readsNumber(int low, int high) {
            if (sort != NUMBER) {
                return fails(MISPLACED);
            }
            if (!within(value, low, high)) {
                return fails(UNTOLD);
            }
            taken = value;
            next();
            return true;
        }

        private boolean readsSemicolon() {
            if (sort != SEMICOLON) {
                return fails(MISPLACED);
            }
            next();
            return true;
        }

        private boolean fails(int number) {
            fault = number;
            return false;
        }

        private boolean isWord(String word) {
            if (sort != NAME || behind - first != word.length()) {
                return false;
            }
            for (int i = 0; i < word.length(); i++) {
                if (byteAt(first + i) != word.charAt(i)) {
                    return false;
                }
            }
            return true;
        }

        private void next() {
            while (behind < length && isBlank(byteAt(behind))) {
                behind++;
            }
            first = behind;
            int b = byteAt(first);
            if (b < 0) {
                sort = END;
            } else if (isLetter(b)) {
                takeName();
            } else if (isFigure(b) || b == '-') {
                takeNumber(b == '-');
            } else {
                sort = b == ';' ? SEMICOLON : NO_TOKEN;
                behind++;
            }
        }

        private void takeName() {
            sort = NAME;
            while (behind < length && isLetter(byteAt(behind))) {
                behind++;
            }
        }

        private void takeNumber(boolean isNegative) {
            int begin = isNegative ? first + 1 : first;
            int sum = 0;
            behind = begin;
            while (behind < length && isFigure(byteAt(behind))) {
                sum = behind - begin < 3 ? sum * 10 + byteAt(behind) - '0' : sum;
                behind++;
            }
            sort = within(behind - begin, 1, 3) ? NUMBER : NO_TOKEN;
            value = isNegative ? -sum : sum;
        }

        private int byteAt(int i) {
            return i >= 0 && i < length && i < LONGEST ? tape[i] & 255 : -1;
        }

        private static boolean isBlank(int b) {
            return b == 32 || b == 10;
        }

        private static boolean isLetter(int b) {
            return b >= 'a' && b <= 'z';
        }

        private static boolean isFigure(int b) {
            return b >= '0' && b <= '9';
        }
    }

    /** One who is running: what is left of his store, his time, and how his latest mile went. */
    private static final class Body {
        int line;
        int store;
        int fill;
        int left;
        int time;
        int pace;
        int seconds;
        boolean isSheltered;
        boolean isHard;
        boolean isSpentOut;

        void start(Course course, int runner, int told) {
            line = course.lines[runner];
            store = course.stores[runner];
            fill = course.fills[runner];
            left = store;
            time = 0;
            pace = told;
            isSheltered = false;
        }

        void changePace(int by) {
            pace = asPace(pace + by);
        }

        boolean isShelteredBy(Body other) {
            int behind = time - other.time;
            return behind > 0 && behind <= 5 && other.pace >= pace;
        }

        void run(Course course, int mile) {
            int need = course.needOf(mile, pace, isSheltered, 0);
            int then = left + changeBy(need, line, fill);
            isHard = need > line;
            isSpentOut = then < 0;
            // one who is spent out falls back out of the shelter that he wanted
            isSheltered = isSheltered && !isSpentOut;
            left = Math.max(0, Math.min(store, then));
            seconds = secondsBy(isSpentOut ? course.easyPace(mile, line) : pace);
            time += seconds;
        }
    }

    /** All who run against one another. */
    private static final class Field {
        final Body[] bodies = new Body[RUNNERS];
        int running;
        long slip;

        Field() {
            for (int r = 0; r < RUNNERS; r++) {
                bodies[r] = new Body();
            }
        }

        void runAll(Course course, Sheet paces, int i, int seed, Results results) {
            running = course.runners;
            slip = seed;
            for (int r = 0; r < running; r++) {
                bodies[r].start(course, r, paces.at(i + r));
            }
            for (int mile = 0; mile < course.miles; mile++) {
                feel(course, mile);
                runMile(course, mile);
                for (int r = 0; r < running; r++) {
                    results.record(bodies[r], r, mile);
                }
            }
            rank(results);
        }

        private void feel(Course course, int mile) {
            int ahead = leastTime();
            for (int r = 0; r < running; r++) {
                bodies[r].changePace(stepByRules(course, r, mile, ahead));
                bodies[r].changePace(stepBySlip());
            }
        }

        private int leastTime() {
            int least = NEVER;
            for (int r = 0; r < running; r++) {
                least = Math.min(least, bodies[r].time);
            }
            return least;
        }

        private int stepByRules(Course course, int runner, int mile, int ahead) {
            for (int k = 0; k < course.rules[runner]; k++) {
                int rule = runner * RULES + k;
                int what = course.ruleWhats[rule];
                int felt = mile;
                if (what == Course.OF_STORE) {
                    felt = bodies[runner].left;
                } else if (what == Course.OF_BEHIND) {
                    felt = bodies[runner].time - ahead;
                }
                int number = course.ruleNumbers[rule];
                if (course.ruleSides[rule] == Course.ABOVE ? felt > number : felt < number) {
                    return course.ruleSteps[rule];
                }
            }
            return 0;
        }

        private int stepBySlip() {
            // a seed of 0 would draw 0 for ever, which is told as no slips
            if (slip == 0) {
                return 0;
            }
            slip = slip * 16807 % 2147483647L;
            long drawn = slip % 7;
            return drawn == 0 ? 1 : drawn == 1 ? -1 : 0;
        }

        /** Shelter is settled for all before anyone's time moves. */
        void runMile(Course course, int mile) {
            for (int r = 0; r < running; r++) {
                bodies[r].isSheltered = isBehindSomeone(r);
            }
            for (int r = 0; r < running; r++) {
                bodies[r].run(course, mile);
            }
        }

        private boolean isBehindSomeone(int runner) {
            for (int r = 0; r < running; r++) {
                if (r != runner && bodies[runner].isShelteredBy(bodies[r])) {
                    return true;
                }
            }
            return false;
        }

        private void rank(Results results) {
            for (int r = 0; r < running; r++) {
                int place = 0;
                for (int other = 0; other < running; other++) {
                    int less = bodies[r].time - bodies[other].time;
                    if (less > 0 || (less == 0 && other < r)) {
                        place++;
                    }
                }
                results.places[r] = place;
            }
            results.runners = running;
            results.isThere = true;
        }

        int timeByFeeling(Course course, int runner, int pace, int low, int high) {
            Body body = bodies[0];
            body.start(course, runner, pace);
            for (int mile = 0; mile < course.miles; mile++) {
                body.changePace(body.left < low ? -1 : body.left > high ? 1 : 0);
                body.run(course, mile);
            }
            return body.time;
        }
    }

    /** What the latest race was, mile by mile. */
    private static final class Results {
        static final int SECONDS = 0, WANTED = 1, LEFT = 2, SHELTERED = 3, SPENT_OUT = 4, TIME = 5, HARD = 6;

        final int[][] rows = new int[HARD + 1][RUNNERS * MILES];
        final int[] places = new int[RUNNERS];
        int runners;
        boolean isThere;

        void become(Results other) {
            isThere = other.isThere;
            runners = other.runners;
            System.arraycopy(other.places, 0, places, 0, RUNNERS);
            for (int what = 0; what <= HARD; what++) {
                System.arraycopy(other.rows[what], 0, rows[what], 0, RUNNERS * MILES);
            }
        }

        void record(Body body, int runner, int mile) {
            int at = runner * MILES + mile;
            rows[SECONDS][at] = body.seconds;
            rows[WANTED][at] = body.pace;
            rows[LEFT][at] = body.left;
            rows[SHELTERED][at] = body.isSheltered ? 1 : 0;
            rows[SPENT_OUT][at] = body.isSpentOut ? 1 : 0;
            rows[TIME][at] = body.time;
            rows[HARD][at] = body.isHard ? 1 : 0;
        }

        int told(int what, int runner, int mile) {
            return rows[what][runner * MILES + mile];
        }

        int runnerAt(int place) {
            for (int r = 0; r < runners; r++) {
                if (places[r] == place) {
                    return r;
                }
            }
            return NONE;
        }

        int kindOf(int runner, int mile) {
            if (told(HARD, runner, mile) == 0) {
                return told(SHELTERED, runner, mile) == 1 ? Step.BEHIND : Step.EASY;
            }
            if (told(SPENT_OUT, runner, mile) == 1) {
                return Step.DEAD;
            }
            boolean isFaster = mile > 0 && told(WANTED, runner, mile) > told(WANTED, runner, mile - 1);
            return isFaster ? Step.SURGED : Step.HARD;
        }
    }

    /** A runner alone, perhaps with rabbits: all that his paces can come to. */
    private static final class Alone {
        final int[] seconds = new int[PACES];
        final int[][] needs = new int[MILES][PACES];
        final int[][] changes = new int[MILES][PACES];
        final int[][] tries = new int[MILES][PACES];
        final int[] tried = new int[MILES];
        /** By mile and what is left ahead of it: the least time from there to the end. */
        final int[][] least = new int[MILES + 1][MOST_STORE + 1];
        final int[] moreHeats = new int[MILES];
        int miles;
        int line;
        int store;
        int fill;

        Alone() {
            for (int k = 0; k < PACES; k++) {
                seconds[k] = secondsBy(SLOWEST + k);
            }
        }

        void face(Course course, int runner, int rabbits) {
            Arrays.fill(moreHeats, 0);
            faceHeats(course, runner, rabbits);
        }

        /** Of a row of heats the one that i names is that of the hour of the start. */
        void faceHour(Course course, int runner, Sheet heats, int i) {
            for (int mile = 0; mile < MILES; mile++) {
                moreHeats[mile] = heats.at(i + mile / 4);
            }
            faceHeats(course, runner, 0);
        }

        private void faceHeats(Course course, int runner, int rabbits) {
            miles = course.miles;
            store = course.stores[runner];
            fill = course.fills[runner];
            for (int mile = 0; mile < miles; mile++) {
                for (int k = 0; k < PACES; k++) {
                    int pace = SLOWEST + k;
                    boolean isSheltered = course.isShelteredBy(rabbits, mile, pace);
                    needs[mile][k] = course.needOf(mile, pace, isSheltered, moreHeats[mile]);
                }
            }
            takeLine(course.lines[runner]);
        }

        void takeLine(int newLine) {
            line = newLine;
            for (int mile = 0; mile < miles; mile++) {
                for (int k = 0; k < PACES; k++) {
                    changes[mile][k] = changeBy(needs[mile][k], line, fill);
                }
            }
        }

        /** What is left behind a mile, -1 if he is spent out. */
        private int leftBehind(int mile, int pace, int left) {
            int then = left + changes[mile][asPace(pace) - SLOWEST];
            return then < 0 ? -1 : Math.min(store, then);
        }

        int leftAfterEven(int pace, int till) {
            int left = store;
            for (int mile = 0; mile < till && mile < miles && left >= 0; mile++) {
                left = leftBehind(mile, pace, left);
            }
            return left;
        }

        /** -1 too if a split fits no pace. */
        int leftAfterSplits(Sheet splits, int i) {
            int left = store;
            for (int mile = 0; mile < miles && left >= 0; mile++) {
                int pace = paceThatTakes(splits.at(i + mile));
                left = pace == 0 ? -1 : leftBehind(mile, pace, left);
            }
            return left;
        }

        private static int paceThatTakes(int seconds) {
            for (int pace = SLOWEST; pace <= FASTEST; pace++) {
                if (secondsBy(pace) == seconds) {
                    return pace;
                }
            }
            return 0;
        }

        /** 0 if there is none. A greater pace takes less, so the first from above is it. */
        int evenPace() {
            for (int pace = FASTEST; pace >= SLOWEST; pace--) {
                if (leftAfterEven(pace, miles) >= 0) {
                    return pace;
                }
            }
            return 0;
        }

        int leastTime() {
            solve();
            return least[0][store];
        }

        void solve() {
            Arrays.fill(least[miles], 0);
            for (int mile = miles - 1; mile >= 0; mile--) {
                chooseTries(mile);
                for (int left = 0; left <= store; left++) {
                    least[mile][left] = leastAt(mile, left);
                }
            }
        }

        /**
         * A slower pace that leaves no more than a faster one takes longer with nothing for it,
         * and one that takes more than the whole store is never run: neither need be tried.
         */
        private void chooseTries(int mile) {
            int most = -store - 1;
            int n = 0;
            for (int k = PACES - 1; k >= 0; k--) {
                if (changes[mile][k] > most) {
                    most = changes[mile][k];
                    tries[mile][n] = k;
                    n++;
                }
            }
            tried[mile] = n;
        }

        private int leastAt(int mile, int left) {
            int[] change = changes[mile];
            int[] behind = least[mile + 1];
            int[] rows = tries[mile];
            int best = NEVER;
            for (int n = 0; n < tried[mile]; n++) {
                int k = rows[n];
                int then = left + change[k];
                if (then >= 0) {
                    best = Math.min(best, seconds[k] + behind[Math.min(store, then)]);
                }
            }
            return best;
        }

        /** The least time if mile 0 goes by a pace; behind solve(). */
        int leastFrom(int pace) {
            int left = leftBehind(0, pace, store);
            return left < 0 ? NEVER : secondsBy(pace) + least[1][left];
        }

        /** Behind solve(), where there is a least time. */
        int paceOfBest(int k) {
            int left = store;
            int pace = SLOWEST;
            for (int mile = 0; mile <= k && mile < miles && left >= 0; mile++) {
                pace = firstPace(mile, left);
                left = leftBehind(mile, pace, left);
            }
            return pace;
        }

        private int firstPace(int mile, int left) {
            for (int pace = SLOWEST; pace <= FASTEST; pace++) {
                int then = leftBehind(mile, pace, left);
                if (then >= 0 && secondsBy(pace) + least[mile + 1][then] == least[mile][left]) {
                    return pace;
                }
            }
            return SLOWEST;
        }
    }

    /** Two runners, each by a plan. */
    private static final class Game {
        final Field field = new Field();
        /** By 4 times a's plan and b's: 1 where a wins, -1 where b does, 0. */
        final int[] scores = new int[PLANS * PLANS];

        int play(Course course, int a, int b, int planA, int planB) {
            Body bodyA = field.bodies[0];
            Body bodyB = field.bodies[1];
            field.running = 2;
            bodyA.start(course, a, SLOWEST);
            bodyB.start(course, b, SLOWEST);
            int easyA = course.easyPace(0, bodyA.line);
            int easyB = course.easyPace(0, bodyB.line);
            for (int mile = 0; mile < course.miles; mile++) {
                boolean isEarly = mile < course.miles / 2;
                bodyA.pace = asPace(easyA + stepByPlan(planA, isEarly));
                bodyB.pace = asPace(easyB + stepByPlan(planB, isEarly));
                field.runMile(course, mile);
            }
            return Integer.compare(bodyB.time, bodyA.time);
        }

        private static int stepByPlan(int plan, boolean isEarly) {
            switch (plan) {
                case 1:
                    return isEarly ? 3 : -2;
                case 2:
                    return isEarly ? -2 : 3;
                case 3:
                    return 1;
                default:
                    return 0;
            }
        }

        void playAll(Course course, int a, int b) {
            for (int plans = 0; plans < PLANS * PLANS; plans++) {
                scores[plans] = play(course, a, b, plans / PLANS, plans % PLANS);
            }
        }

        /** Behind playAll(). */
        boolean restsAt(int plans) {
            int planA = plans / PLANS;
            int planB = plans % PLANS;
            int score = scores[plans];
            for (int other = 0; other < PLANS; other++) {
                if (scores[other * PLANS + planB] > score || scores[planA * PLANS + other] < score) {
                    return false;
                }
            }
            return true;
        }
    }

    /** A runner's mile of a race as one of a kind, asked by the bodies of its kind. */
    private static final class Step {
        static final int ANY = 0, EASY = 1, HARD = 2, BEHIND = 3, DEAD = 4, SURGED = 5;
        private static final int TRACED_AT_MOST = 16, DEEPEST = 20;

        /** By kinds: the nearest kind that it is, too. */
        private static final int[] NEAREST = {0, ANY, ANY, EASY, HARD, HARD};
        /** By kinds: the body that begins. */
        private static final int[] SIZE_BODIES = {10, 13, 11, 14, 12, 11};
        private static final int[] MARK_BODIES = {20, 23, 21, 24, 21, 22};

        final int[] numbers = new int[TRACED_AT_MOST];
        int traced;
        int kind;
        int mile;
        int seconds;
        int pace;
        int leftBehind;

        static boolean isOne(int told, int kind) {
            int is = told;
            for (int level = 0; level < 3 && is != kind; level++) {
                is = within(is, ANY, SURGED) ? NEAREST[is] : ANY;
            }
            return is == kind;
        }

        void take(Results results, int runner, int ofMile) {
            traced = 0;
            kind = results.kindOf(runner, ofMile);
            mile = ofMile;
            seconds = results.told(Results.SECONDS, runner, ofMile);
            pace = results.told(Results.WANTED, runner, ofMile);
            leftBehind = results.told(Results.LEFT, runner, ofMile);
        }

        int size() {
            return within(kind, ANY, SURGED) ? answer(SIZE_BODIES[kind], 0) : 0;
        }

        int mark() {
            return within(kind, ANY, SURGED) ? answer(MARK_BODIES[kind], 0) : 0;
        }

        private int answer(int body, int depth) {
            if (depth >= DEEPEST) {
                return 0;
            }
            leaveNumber(body);
            switch (body) {
                case 10:
                    return seconds;
                case 11:
                    return answer(10, depth + 1) + answer(MARK_BODIES[kind], depth + 1);
                case 12:
                    return 2 * answer(11, depth + 1);
                case 13:
                    return answer(10, depth + 1) - leftBehind;
                case 14:
                    return answer(13, depth + 1) - 1;
                case 20:
                    return mile;
                case 21:
                    return answer(20, depth + 1) + pace;
                case 22:
                    return answer(21, depth + 1) + 100;
                case 23:
                    return answer(20, depth + 1) + answer(SIZE_BODIES[kind], depth + 1);
                case 24:
                    return -answer(23, depth + 1);
                default:
                    return 0;
            }
        }

        private void leaveNumber(int body) {
            if (traced < TRACED_AT_MOST) {
                numbers[traced] = body;
                traced++;
            }
        }
    }
}
