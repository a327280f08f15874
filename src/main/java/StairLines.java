import java.util.Arrays;

/** Lines on a stair: classes that go down ten steps, tick by tick, and what would be better. */
public final class StairLines {
    public static final int NONE = -1, BAD = -2, STATE = -3, FULL = -4;
    public static final long NO = -4611686018427387904L;

    private static final int NOTHING = -11, OUTSIDE = -12, OTHER_SORT = -13, BELOW_ZERO = -14;

    private static final int STEPS = 10, LAST_STEP = 9, MOST_WIDE = 9;
    private static final int STAIR = 0, TURN = 1, DOOR = 2, SHARP = 3, GATE = 4, LACED = 5;
    private static final int[] UNDER = {NONE, STAIR, STAIR, TURN, DOOR, TURN};

    private static final int MOST_CLASSES = 5, MOST_SIZE = 60, LAST_BELL = 199, MOST_EVERY = 9;
    private static final int LAST_TICK = 999, RUN_TICKS = 400, MOST_SHUT = 100;
    private static final int LATER_BY = 20, MOST_APART = 30, MOST_ORDERS = 120;

    private static final int TAPE_SIZE = 160, MOST_TEXTS = 6, MOST_OPEN = 5;
    private static final int FAULT_BASE = -100;
    private static final String TEXT_ZERO = "slows 7 < many ; comes 9 ; minds 1 ;";

    /** The three rules of a text, by their place in it, and the greatest answer of each. */
    private static final int SLOWS = 0, COMES = 1, MINDS = 2, RULES = 3;
    private static final int MOST_SLOWS = 9, MOST_COMES = 9, MOST_MINDS = 99;

    /** What a text is told of, by its place in the row of what is seen. */
    private static final int CELL = 0, MANY = 1, TICK = 2, AHEAD = 3, WIDE = 4, LEFT = 5, NAMES = 6;

    /** The words of a text's code: numbers stand for themselves, NAME_BASE less a name for a name. */
    private static final int NAME_BASE = -1, FIRST_SIGN = -10;
    private static final int DENY = -10, NEGATE = -11, ADD = -12, TAKE_AWAY = -13, TIMES = -14;
    private static final int LESS = -15, SAME = -16, BOTH = -17, EITHER = -18;

    /** Twice what five open brackets, each behind the left sides of five signs, can ask for. */
    private static final int STACK_SIZE = 64;

    /** The tokens of a text; its signs are tokens by their own bytes, which are above these. */
    private static final int END = 0, WRONG = 1, NUMBER = 2, NAME = 3;
    private static final int KEY_SLOWS = 4, KEY_OR = 7, KEY_AND = 8, KEY_NOT = 9;
    private static final int KEYS = 6, WORDS = KEYS + NAMES, MOST_DIGITS = 4;

    private static final int SHEETS = 4, MOST_CELLS = 40;
    private static final int BYTES = 0, SHORTS = 1, INTS = 2;

    private final Stair now = new Stair();
    private final Stair kept = new Stair();
    private boolean hasImage;
    private final Walk trial = new Walk();
    private final Reader reader = new Reader();
    private final Text[] texts = new Text[MOST_TEXTS];
    private int textCount;
    private final Sheet[] sheets = new Sheet[SHEETS];
    private final int[] bellRow = new int[MOST_CLASSES];
    private final int[] bestRow = new int[MOST_CLASSES];

    public StairLines() {
        for (int i = 0; i < MOST_TEXTS; i++) {
            texts[i] = new Text();
        }
        for (int i = 0; i < SHEETS; i++) {
            sheets[i] = new Sheet();
        }
        for (int i = 0; i < TEXT_ZERO.length(); i++) {
            reader.put(TEXT_ZERO.charAt(i));
        }
        reader.readInto(texts[0]);
        textCount = 1;
    }

    // ---- steps, classes

    public int step(int step, int kind, int width) {
        if (!isStep(step) || !isKind(kind) || !between(width, 1, MOST_WIDE)) {
            return BAD;
        }
        if (now.crowd[step] > Stair.holdsOf(kind, width)) {
            return STATE;
        }
        int was = now.kinds[step];
        now.kinds[step] = kind;
        now.widths[step] = width;
        return was;
    }

    public int come(int size, int floor, int what) {
        if (!between(size, 1, MOST_SIZE) || !isStep(floor) || !isBellAndEvery(what)) {
            return BAD;
        }
        if (now.classCount >= MOST_CLASSES) {
            return FULL;
        }
        int number = now.classCount;
        now.sizes[number] = size;
        now.floors[number] = floor;
        now.bells[number] = what / 10;
        now.everies[number] = what % 10;
        now.waiting[number] = size;
        now.classCount = number + 1;
        return number;
    }

    public int set(int what, int of, int v) {
        if (!isClass(of)) {
            return BAD;
        }
        switch (what) {
            case 0:
                return exchange(now.bells, of, v, between(v, 0, LAST_BELL));
            case 1:
                return exchange(now.everies, of, v, between(v, 1, MOST_EVERY));
            case 2:
                return exchange(now.floors, of, v, isStep(v));
            default:
                return BAD;
        }
    }

    public int told(int of, int what) {
        if (between(what, 0, 4)) {
            return isStep(of) ? toldOfStep(of, what) : BAD;
        }
        return isClass(of) ? toldOfClass(of, what) : BAD;
    }

    // ---- texts

    public int feed(int letter) {
        if (!between(letter, 0, 255)) {
            return BAD;
        }
        return reader.put(letter) ? reader.length : FULL;
    }

    public int text() {
        if (textCount >= MOST_TEXTS) {
            return FULL;
        }
        int fault = reader.readInto(texts[textCount]);
        if (fault != NONE) {
            return FAULT_BASE - fault;
        }
        textCount++;
        return textCount - 1;
    }

    public int force(int text) {
        if (text < 0 || text >= textCount) {
            return BAD;
        }
        int was = now.rule;
        now.rule = text;
        return was;
    }

    // ---- ticks

    public int tick() {
        beginTrial();
        trial.passTick(NONE);
        now.becomeLike(trial.stair);
        return now.out;
    }

    public int run(int what) {
        if (!between(what, 0, 3)) {
            return BAD;
        }
        beginTrial();
        trial.minding = what == 2;
        int ends = trial.runOut(RUN_TICKS);
        switch (what) {
            case 0:
                return ends;
            case 1:
                return trial.stood;
            case 2:
                return trial.minded;
            default:
                return trial.most;
        }
    }

    public int on(int step, int n) {
        if (!isStep(step) || !between(n, 0, RUN_TICKS)) {
            return BAD;
        }
        beginTrial();
        trial.runOut(n);
        return trial.stair.crowd[step];
    }

    public int holdsUp() {
        beginTrial();
        trial.runOut(RUN_TICKS);
        int longest = 0;
        int which = NONE;
        for (int s = LAST_STEP; s >= 0; s--) {
            if (trial.stoodOn[s] > longest) {
                longest = trial.stoodOn[s];
                which = s;
            }
        }
        return which;
    }

    // ---- what would be better

    public int widen() {
        beginTrial();
        int least = trial.runOut(RUN_TICKS);
        int which = NONE;
        for (int s = 0; s < STEPS; s++) {
            if (now.widths[s] < MOST_WIDE) {
                beginTrial();
                trial.stair.widths[s]++;
                // a run that reaches the least is no better, so it need not go on
                int ends = trial.runOut(least);
                if (ends < least) {
                    least = ends;
                    which = s;
                }
            }
        }
        return which;
    }

    public int later() {
        beginTrial();
        trial.runOut(RUN_TICKS);
        int least = trial.stood;
        int which = NONE;
        for (int c = 0; c < now.classCount; c++) {
            beginTrial();
            trial.stair.bells[c] = Math.min(LAST_BELL, now.bells[c] + LATER_BY);
            trial.runOut(RUN_TICKS);
            if (trial.stood < least) {
                least = trial.stood;
                which = c;
            }
        }
        return which;
    }

    public int apart(int what) {
        switch (what) {
            case 0:
                return leastApart();
            case 1:
                return soonestApart();
            default:
                return BAD;
        }
    }

    public int order(int of) {
        if (of != NONE && !isClass(of)) {
            return BAD;
        }
        for (int c = 0; c < now.classCount; c++) {
            bellRow[c] = c;
        }
        int leastEnds = RUN_TICKS + 1;
        int leastStood = 0;
        boolean more = true;
        for (int i = 0; i < MOST_ORDERS && more; i++) {
            if (!isLikeAnEarlierRow()) {
                beginTrialInOrder();
                // one tick beyond the least is enough to know that a row is no better
                int ends = trial.runOut(Math.min(RUN_TICKS, leastEnds + 1));
                if (ends < leastEnds || ends == leastEnds && trial.stood < leastStood) {
                    leastEnds = ends;
                    leastStood = trial.stood;
                    System.arraycopy(bellRow, 0, bestRow, 0, MOST_CLASSES);
                }
            }
            more = nextBellRow();
        }
        return of == NONE ? leastEnds : bestRow[of];
    }

    public int shut(int step, int k) {
        if (!isStep(step) || !between(k, 0, MOST_SHUT)) {
            return BAD;
        }
        beginTrial();
        int ends = 0;
        while (ends < RUN_TICKS && !trial.stair.isAllOut()) {
            trial.passTick(ends < k ? step : NONE);
            ends++;
        }
        return ends;
    }

    public int drill() {
        beginTrial();
        for (int c = 0; c < now.classCount; c++) {
            trial.stair.bells[c] = now.clock;
        }
        return trial.runOut(RUN_TICKS);
    }

    public int judge(int step, int sheet) {
        if (!isStep(step) || !isSheet(sheet)) {
            return BAD;
        }
        Sheet said = sheets[sheet];
        if (said.isMissing()) {
            return NOTHING;
        }
        beginTrial();
        for (int i = 0; i < said.length; i++) {
            trial.passTick(NONE);
            if (trial.stair.crowd[step] != said.cells[i]) {
                return i;
            }
        }
        return NONE;
    }

    public int look(int step, int n) {
        if (!isStep(step) || !between(n, 0, RUN_TICKS)) {
            return BAD;
        }
        beginTrial();
        int full = 0;
        for (int i = 0; i < n; i++) {
            trial.passTick(NONE);
            if (trial.stair.roomOn(step) <= 0) {
                full++;
            }
        }
        return full;
    }

    public int drawn(int seed) {
        beginTrial();
        int z = seed;
        int ends = 0;
        while (ends < RUN_TICKS && !trial.stair.isAllOut()) {
            z = z * 1103515245 + 12345;
            trial.passTick((z >>> 8) % 5 == 0 ? (z >>> 12) % STEPS : NONE);
            ends++;
        }
        return ends;
    }

    public int image() {
        kept.becomeLike(now);
        hasImage = true;
        return now.clock;
    }

    public int back() {
        if (!hasImage) {
            return STATE;
        }
        now.becomeLike(kept);
        return now.clock;
    }

    public int count(int what) {
        switch (what) {
            case 0:
                return now.classCount;
            case 1:
                return now.clock;
            case 2:
                return now.out;
            case 3:
                return now.countOnSteps();
            case 4:
                return now.countIn();
            case 5:
                return textCount;
            case 6:
                return reader.length;
            case 7:
                return now.rule;
            default:
                return BAD;
        }
    }

    // ---- the host

    public int sheet(int sheet, int sort, int n) {
        if (!isSheet(sheet) || sort != NONE && !isSort(sort)) {
            return BAD;
        }
        if (sort == NONE) {
            sheets[sheet].becomeMissing();
            return 1;
        }
        if (n > MOST_CELLS) {
            return BAD;
        }
        if (n < 0) {
            return BELOW_ZERO;
        }
        sheets[sheet].becomeRow(sort, n);
        return 1;
    }

    public int cell(int sheet, int i, int v) {
        if (!isSheet(sheet)) {
            return BAD;
        }
        Sheet row = sheets[sheet];
        if (row.isMissing()) {
            return NOTHING;
        }
        if (!row.hasPlaces(i, 1)) {
            return OUTSIDE;
        }
        row.put(i, v);
        return 1;
    }

    public int copy(int sheet, int i, int other, int j, int n) {
        if (!isSheet(sheet) || !isSheet(other)) {
            return BAD;
        }
        Sheet from = sheets[sheet];
        Sheet to = sheets[other];
        if (from.isMissing() || to.isMissing()) {
            return NOTHING;
        }
        if (from.sort != to.sort) {
            return OTHER_SORT;
        }
        if (!from.hasPlaces(i, n) || !to.hasPlaces(j, n)) {
            return OUTSIDE;
        }
        System.arraycopy(from.cells, i, to.cells, j, n);
        return n;
    }

    public int classes(int sheet, int sort, int from, int n) {
        if (!isSheet(sheet) || !isSort(sort) || !between(n, 0, MOST_CLASSES)) {
            return BAD;
        }
        Sheet row = sheets[sheet];
        if (row.isMissing()) {
            return NOTHING;
        }
        if (row.sort != sort) {
            return OTHER_SORT;
        }
        int came = 0;
        for (int k = 0; k < n; k++) {
            int i = from + 3 * k;
            if (!row.hasPlaces(i, 3)) {
                return OUTSIDE;
            }
            if (come(row.cells[i], row.cells[i + 1], row.cells[i + 2]) >= 0) {
                came++;
            }
        }
        return came;
    }

    public int taken(int step, int k) {
        if (!isKind(k)) {
            return BAD;
        }
        if (!isStep(step)) {
            return NOTHING;
        }
        return isUnder(now.kinds[step], k) ? now.widths[step] : OTHER_SORT;
    }

    // ---- what the calls share

    private static boolean between(int v, int least, int most) {
        return v >= least && v <= most;
    }

    private static boolean isStep(int step) {
        return between(step, 0, LAST_STEP);
    }

    private static boolean isKind(int kind) {
        return between(kind, STAIR, LACED);
    }

    private static boolean isSheet(int sheet) {
        return between(sheet, 0, SHEETS - 1);
    }

    private static boolean isSort(int sort) {
        return between(sort, BYTES, INTS);
    }

    private static boolean isBellAndEvery(int what) {
        return what >= 0 && what / 10 <= LAST_BELL && what % 10 >= 1;
    }

    private static boolean isUnder(int kind, int other) {
        int k = kind;
        for (int i = 0; i < UNDER.length && isKind(k); i++) {
            if (k == other) {
                return true;
            }
            k = UNDER[k];
        }
        return false;
    }

    private boolean isClass(int of) {
        return of >= 0 && of < now.classCount;
    }

    private static int exchange(int[] row, int of, int v, boolean fits) {
        if (!fits || of < 0 || of >= row.length) {
            return BAD;
        }
        int was = row[of];
        row[of] = v;
        return was;
    }

    private int toldOfStep(int step, int what) {
        switch (what) {
            case 0:
                return now.kinds[step];
            case 1:
                return now.widths[step];
            case 2:
                return Stair.holdsOf(now.kinds[step], now.widths[step]);
            case 3:
                return now.passes(step);
            default:
                return now.crowd[step];
        }
    }

    private int toldOfClass(int number, int what) {
        switch (what) {
            case 5:
                return now.sizes[number];
            case 6:
                return now.floors[number];
            case 7:
                return now.bells[number];
            case 8:
                return now.everies[number];
            case 9:
                return now.waiting[number];
            default:
                return BAD;
        }
    }

    private void beginTrial() {
        trial.begin(now, texts[now.rule]);
    }

    private void beginTrialApart(int d) {
        beginTrial();
        for (int c = 0; c < now.classCount; c++) {
            trial.stair.bells[c] = Math.min(LAST_BELL, c * d);
        }
    }

    private int leastApart() {
        for (int d = 0; d <= MOST_APART; d++) {
            beginTrialApart(d);
            // once somebody stands, the rest of the run can't mend it
            for (int ticks = 0; ticks < RUN_TICKS && trial.stood == 0 && !trial.stair.isAllOut(); ticks++) {
                trial.passTick(NONE);
            }
            if (trial.stood == 0) {
                return d;
            }
        }
        return NONE;
    }

    private int soonestApart() {
        int least = RUN_TICKS + 1;
        int which = NONE;
        for (int d = 0; d <= MOST_APART; d++) {
            beginTrialApart(d);
            int ends = trial.runOut(Math.min(RUN_TICKS, least));
            if (ends < least) {
                least = ends;
                which = d;
            }
        }
        return which;
    }

    private void beginTrialInOrder() {
        beginTrial();
        for (int c = 0; c < now.classCount; c++) {
            trial.stair.bells[c] = now.bells[bellRow[c]];
        }
    }

    /** Two bells that ring in one tick, or have both rung, may change places: the row with them in order came first. */
    private boolean isLikeAnEarlierRow() {
        for (int c = 1; c < now.classCount; c++) {
            for (int b = 0; b < c; b++) {
                if (bellRow[b] > bellRow[c] && ringsAt(bellRow[b]) == ringsAt(bellRow[c])) {
                    return true;
                }
            }
        }
        return false;
    }

    private int ringsAt(int number) {
        return Math.max(now.clock, now.bells[number]);
    }

    /** Makes bellRow the next row in the order of rows; false if it was the last. */
    private boolean nextBellRow() {
        int last = now.classCount - 1;
        int rise = last - 1;
        while (rise >= 0 && bellRow[rise] > bellRow[rise + 1]) {
            rise--;
        }
        if (rise < 0) {
            return false;
        }
        int above = last;
        while (above > rise + 1 && bellRow[above] < bellRow[rise]) {
            above--;
        }
        swapBells(rise, above);
        for (int a = rise + 1, b = last; a < b; a++, b--) {
            swapBells(a, b);
        }
        return true;
    }

    private void swapBells(int a, int b) {
        int was = bellRow[a];
        bellRow[a] = bellRow[b];
        bellRow[b] = was;
    }

    /** The stair, its classes, and where everybody is. */
    private static final class Stair {
        final int[] kinds = new int[STEPS];
        final int[] widths = new int[STEPS];
        final int[] crowd = new int[STEPS];
        final int[] sizes = new int[MOST_CLASSES];
        final int[] floors = new int[MOST_CLASSES];
        final int[] bells = new int[MOST_CLASSES];
        final int[] everies = new int[MOST_CLASSES];
        final int[] waiting = new int[MOST_CLASSES];
        int classCount;
        int clock;
        int out;
        int rule;

        Stair() {
            Arrays.fill(widths, 2);
        }

        void becomeLike(Stair other) {
            System.arraycopy(other.kinds, 0, kinds, 0, STEPS);
            System.arraycopy(other.widths, 0, widths, 0, STEPS);
            System.arraycopy(other.crowd, 0, crowd, 0, STEPS);
            System.arraycopy(other.sizes, 0, sizes, 0, MOST_CLASSES);
            System.arraycopy(other.floors, 0, floors, 0, MOST_CLASSES);
            System.arraycopy(other.bells, 0, bells, 0, MOST_CLASSES);
            System.arraycopy(other.everies, 0, everies, 0, MOST_CLASSES);
            System.arraycopy(other.waiting, 0, waiting, 0, MOST_CLASSES);
            classCount = other.classCount;
            clock = other.clock;
            out = other.out;
            rule = other.rule;
        }

        static int holdsOf(int kind, int width) {
            int ofStair = 4 * width;
            int ofTurn = ofStair / 2;
            int ofDoor = ofStair + 2;
            switch (kind) {
                case TURN:
                case LACED:
                    return Math.max(1, ofTurn);
                case DOOR:
                    return Math.max(1, ofDoor);
                case SHARP:
                    return Math.max(1, ofTurn - 1);
                case GATE:
                    return Math.max(1, 2 * ofDoor);
                default:
                    return Math.max(1, ofStair);
            }
        }

        int roomOn(int step) {
            return holdsOf(kinds[step], widths[step]) - crowd[step];
        }

        /** How many may leave a step in the tick of now, were nobody slowed. */
        int passes(int step) {
            int width = widths[step];
            int ofTurn = Math.max(0, width - 1);
            int lace = width + 2;
            switch (kinds[step]) {
                case TURN:
                    return ofTurn;
                case SHARP:
                    return Math.max(1, ofTurn);
                case GATE:
                    return clock % 2 == 0 ? width : 0;
                case LACED:
                    return lace > 0 && clock % lace == 0 ? 0 : ofTurn;
                default:
                    return width;
            }
        }

        int countOnSteps() {
            int sum = 0;
            for (int s = 0; s < STEPS; s++) {
                sum += crowd[s];
            }
            return sum;
        }

        int countIn() {
            int sum = 0;
            for (int c = 0; c < classCount; c++) {
                sum += waiting[c];
            }
            return sum;
        }

        boolean isAllOut() {
            return countIn() == 0 && countOnSteps() == 0;
        }
    }

    /** Lets ticks pass on a stair of its own, and counts who stands. */
    private static final class Walk {
        final Stair stair = new Stair();
        final int[] stoodOn = new int[STEPS];
        int stood;
        int minded;
        int most;
        /** Minds change nobody's way, so they are reckoned only where they are asked for. */
        boolean minding;
        private final int[] standing = new int[STEPS];
        private final Reckoner reckoner = new Reckoner();
        private Text rule;

        void begin(Stair from, Text by) {
            stair.becomeLike(from);
            rule = by;
            Arrays.fill(stoodOn, 0);
            stood = 0;
            minded = 0;
            most = 0;
            minding = false;
        }

        /** Ticks till all are out, so many at most: how many passed. */
        int runOut(int limit) {
            int ticks = 0;
            while (ticks < limit && !stair.isAllOut()) {
                passTick(NONE);
                ticks++;
            }
            return ticks;
        }

        void passTick(int shutStep) {
            int left = stair.countIn();
            for (int s = LAST_STEP; s >= 0; s--) {
                leaveStep(s, s == shutStep ? 0 : stair.passes(s), left);
            }
            for (int c = 0; c < stair.classCount; c++) {
                if (stair.bells[c] <= stair.clock && stair.waiting[c] > 0) {
                    stepOnFloor(c);
                }
            }
            countStanding();
            stair.clock = Math.min(LAST_TICK, stair.clock + 1);
        }

        private void leaveStep(int s, int passes, int left) {
            int gone = Math.min(stair.crowd[s], passes);
            if (gone > 0) {
                int slowed = Math.max(0, passes - reckon(SLOWS, s, left, MOST_SLOWS));
                int room = s < LAST_STEP ? stair.roomOn(s + 1) : gone;
                gone = Math.min(gone, Math.min(slowed, room));
            }
            stair.crowd[s] -= gone;
            // nobody has come to this step yet in this tick
            standing[s] = stair.crowd[s];
            if (s < LAST_STEP) {
                stair.crowd[s + 1] += gone;
            } else {
                stair.out += gone;
            }
        }

        private void stepOnFloor(int c) {
            int floor = stair.floors[c];
            int room = stair.roomOn(floor);
            if (room > 0) {
                int let = reckon(COMES, floor, stair.waiting[c], MOST_COMES);
                int coming = Math.min(Math.min(stair.waiting[c], stair.everies[c]), Math.min(let, room));
                stair.waiting[c] -= coming;
                stair.crowd[floor] += coming;
            }
        }

        private void countStanding() {
            int left = minding ? stair.countIn() : 0;
            for (int s = 0; s < STEPS; s++) {
                most = Math.max(most, stair.crowd[s]);
                if (standing[s] > 0) {
                    stood += standing[s];
                    stoodOn[s] += standing[s];
                    if (minding) {
                        minded += standing[s] * reckon(MINDS, s, left, MOST_MINDS);
                    }
                }
            }
        }

        private int reckon(int which, int s, int left, int bound) {
            int[] seen = reckoner.seen;
            seen[CELL] = s;
            seen[MANY] = stair.crowd[s];
            seen[TICK] = stair.clock;
            seen[AHEAD] = s < LAST_STEP ? stair.crowd[s + 1] : 0;
            seen[WIDE] = stair.widths[s];
            seen[LEFT] = left;
            return Math.max(0, Math.min(bound, reckoner.value(rule, which)));
        }
    }

    /** A text that was read: the code of its three rules, one behind the other. */
    private static final class Text {
        final int[] code = new int[TAPE_SIZE];
        final int[] ends = new int[RULES];
        int length;

        void add(int word) {
            if (length < code.length) {
                code[length] = word;
                length++;
            }
        }

        int startOf(int which) {
            return which <= 0 ? 0 : ends[which - 1];
        }
    }

    /** Reckons the code of a rule, whose signs stand behind what they belong to, by a stack. */
    private static final class Reckoner {
        final int[] seen = new int[NAMES];
        private final int[] stack = new int[STACK_SIZE];

        int value(Text text, int which) {
            if (text == null || which < 0 || which >= RULES) {
                return 0;
            }
            int top = 0;
            for (int i = text.startOf(which); i < text.ends[which]; i++) {
                int word = text.code[i];
                if (word > FIRST_SIGN) {
                    if (top < STACK_SIZE) {
                        stack[top] = word >= 0 ? word : nameValue(word);
                        top++;
                    }
                } else if (word == DENY || word == NEGATE) {
                    if (top >= 1) {
                        int v = stack[top - 1];
                        stack[top - 1] = word == NEGATE ? -v : v == 0 ? 1 : 0;
                    }
                } else if (top >= 2) {
                    stack[top - 2] = joined(stack[top - 2], word, stack[top - 1]);
                    top--;
                }
            }
            return top > 0 ? stack[0] : 0;
        }

        private int nameValue(int word) {
            int name = NAME_BASE - word;
            return name >= 0 && name < NAMES ? seen[name] : 0;
        }

        private static int joined(int a, int sign, int b) {
            switch (sign) {
                case ADD:
                    return a + b;
                case TAKE_AWAY:
                    return a - b;
                case TIMES:
                    return a * b;
                case LESS:
                    return a < b ? 1 : 0;
                case SAME:
                    return a == b ? 1 : 0;
                case BOTH:
                    return a != 0 && b != 0 ? 1 : 0;
                default:
                    return a != 0 || b != 0 ? 1 : 0;
            }
        }
    }

    /** The tape, and the reading of it as a text. */
    private static final class Reader {
        int length;
        private final int[] tape = new int[TAPE_SIZE];
        private Text into;
        private int at;
        private int token;
        private int place;
        /** The number that a NUMBER is, or which name a NAME is. */
        private int worth;
        private int fault;

        boolean put(int letter) {
            if (length >= TAPE_SIZE) {
                return false;
            }
            tape[length] = letter;
            length++;
            return true;
        }

        /** Reads the whole tape, which is empty then: the place of its fault, or NONE. */
        int readInto(Text text) {
            into = text;
            into.length = 0;
            at = 0;
            fault = NONE;
            advance();
            for (int rule = 0; rule < RULES; rule++) {
                // the keys' tokens stand in the order of the rules
                accept(KEY_SLOWS + rule);
                readEither(0);
                accept(';');
                into.ends[rule] = into.length;
            }
            if (token != END) {
                refuse();
            }
            length = 0;
            return fault;
        }

        private void accept(int wanted) {
            if (token == wanted) {
                advance();
            } else {
                refuse();
            }
        }

        /** Behind the first fault the token stays WRONG, which stands nowhere, so all reading ends. */
        private void refuse() {
            if (fault == NONE) {
                fault = place;
            }
            token = WRONG;
        }

        private void readEither(int open) {
            readBoth(open);
            for (int i = 0; i < TAPE_SIZE && token == KEY_OR; i++) {
                advance();
                readBoth(open);
                into.add(EITHER);
            }
        }

        private void readBoth(int open) {
            readDenied(open);
            for (int i = 0; i < TAPE_SIZE && token == KEY_AND; i++) {
                advance();
                readDenied(open);
                into.add(BOTH);
            }
        }

        private void readDenied(int open) {
            if (token == KEY_NOT) {
                if (open >= MOST_OPEN) {
                    refuse();
                    return;
                }
                advance();
                readDenied(open + 1);
                into.add(DENY);
                return;
            }
            readSum(open);
            if (token == '<' || token == '=') {
                int sign = token == '<' ? LESS : SAME;
                advance();
                readSum(open);
                into.add(sign);
            }
        }

        private void readSum(int open) {
            readTerm(open);
            for (int i = 0; i < TAPE_SIZE && (token == '+' || token == '-'); i++) {
                int sign = token == '+' ? ADD : TAKE_AWAY;
                advance();
                readTerm(open);
                into.add(sign);
            }
        }

        private void readTerm(int open) {
            readOne(open);
            for (int i = 0; i < TAPE_SIZE && token == '*'; i++) {
                advance();
                readOne(open);
                into.add(TIMES);
            }
        }

        private void readOne(int open) {
            if (token == NUMBER) {
                into.add(worth);
                advance();
            } else if (token == NAME) {
                into.add(NAME_BASE - worth);
                advance();
            } else if (token == '-' && open < MOST_OPEN) {
                advance();
                readOne(open + 1);
                into.add(NEGATE);
            } else if (token == '(' && open < MOST_OPEN) {
                advance();
                readEither(open + 1);
                accept(')');
            } else {
                refuse();
            }
        }

        private void advance() {
            while (at < length && isBlank(tape[at])) {
                at++;
            }
            place = at;
            if (at >= length) {
                token = END;
            } else if (isLetter(tape[at])) {
                token = wordToken();
            } else if (isDigit(tape[at])) {
                token = numberToken();
            } else {
                token = isSign(tape[at]) ? tape[at] : WRONG;
                at++;
            }
        }

        private int wordToken() {
            while (at < length && isLetter(tape[at])) {
                at++;
            }
            for (int number = 0; number < WORDS; number++) {
                if (passed(word(number))) {
                    worth = number - KEYS;
                    return number < KEYS ? KEY_SLOWS + number : NAME;
                }
            }
            return WRONG;
        }

        /** The keys in the order of their tokens, and the names in that of what is seen. */
        private static String word(int number) {
            switch (number) {
                case 0:
                    return "slows";
                case 1:
                    return "comes";
                case 2:
                    return "minds";
                case 3:
                    return "or";
                case 4:
                    return "and";
                case 5:
                    return "not";
                case KEYS + CELL:
                    return "cell";
                case KEYS + MANY:
                    return "many";
                case KEYS + TICK:
                    return "tick";
                case KEYS + AHEAD:
                    return "ahead";
                case KEYS + WIDE:
                    return "wide";
                default:
                    return "left";
            }
        }

        private int numberToken() {
            worth = 0;
            while (at < length && isDigit(tape[at])) {
                // a number that is too long is refused, whatever it would be
                if (at - place < MOST_DIGITS) {
                    worth = worth * 10 + tape[at] - '0';
                }
                at++;
            }
            return at - place > MOST_DIGITS ? WRONG : NUMBER;
        }

        /** Whether the word that was just passed is this one. */
        private boolean passed(String word) {
            if (at - place != word.length()) {
                return false;
            }
            for (int i = 0; i < word.length(); i++) {
                if (tape[place + i] != word.charAt(i)) {
                    return false;
                }
            }
            return true;
        }

        private static boolean isBlank(int letter) {
            return letter == 32 || letter == 10;
        }

        private static boolean isLetter(int letter) {
            return letter >= 'a' && letter <= 'z';
        }

        private static boolean isDigit(int letter) {
            return letter >= '0' && letter <= '9';
        }

        private static boolean isSign(int letter) {
            switch (letter) {
                case '(':
                case ')':
                case ';':
                case '+':
                case '-':
                case '*':
                case '<':
                case '=':
                    return true;
                default:
                    return false;
            }
        }
    }

    /** A row of bytes, shorts or ints, or none. */
    private static final class Sheet {
        final int[] cells = new int[MOST_CELLS];
        int sort = NONE;
        int length;

        boolean isMissing() {
            return sort == NONE;
        }

        void becomeMissing() {
            sort = NONE;
            length = 0;
        }

        void becomeRow(int ofSort, int n) {
            sort = ofSort;
            length = n;
            Arrays.fill(cells, 0);
        }

        /** Told without a sum, which could wrap. */
        boolean hasPlaces(int from, int n) {
            return from >= 0 && n >= 0 && n <= length && from <= length - n;
        }

        void put(int i, int v) {
            if (sort == BYTES) {
                cells[i] = (byte) v;
            } else if (sort == SHORTS) {
                cells[i] = (short) v;
            } else {
                cells[i] = v;
            }
        }
    }
}
