import java.util.Arrays;

/**
 * Memory lines trained at start: lanes with an eye of delays and levels each, told as a text.
 * The words in capitals in the comments are those of the document.
 */
public final class EyeTrainer {
    public static final int NONE = -1;

    private static final int NO_SUCH = -2;
    private static final int BAD_NUMBER = -3;
    private static final int TOO_MANY = -4;
    private static final int NOT_NOW = -5;
    private static final int TRAY_MISSING = -6;
    private static final int NO_NUMBER = -7;
    private static final int WHY_NOT = -10;
    private static final int TEXT_FAULT = -30;
    private static final int BAD_TIME = -99000003;

    private static final int DELAYS = 24;
    private static final int LEVELS = 16;
    private static final int CELLS = DELAYS * LEVELS;
    private static final int ALL_DELAYS = (1 << DELAYS) - 1;
    private static final int SIDES = 4;

    private static final int TEXT_MOST = 900;
    private static final int LANES_MOST = 6;
    private static final int PATTERNS_MOST = 4;
    private static final int NESTED_MOST = 6;
    private static final int DRIFT_MOST = 15;
    private static final int DRIFT_SORTS = 2 * DRIFT_MOST + 1;
    private static final int TIMES = 100;
    private static final int VALUE_MOST = 1000000;

    private static final int TIME_MOST = 9999;
    private static final int TICKS_MOST = 99;
    private static final int GOING_MOST = 999;
    private static final int UNDO_MOST = 10;
    private static final int DAY_MOST = 40;
    private static final int STEPS_MOST = 20;
    private static final int MOMENTS_MOST = 6;
    private static final int LOTS = 10;
    private static final int SEEN_MOST = 8;
    private static final int SEEN_TOP = 2 * CELLS - 1;
    private static final int TRAYS = 4;
    private static final int SORTS = 4;
    private static final int NUMBERS_MOST = 40;
    private static final int IMAGES = 2;

    /* What a law can speak of: places in its row of values, and bits of what it uses. */
    private static final int DELAY = 0;
    private static final int LEVEL = 1;
    private static final int LANE = 2;
    private static final int STRESS = 3;
    private static final int DRIFT = 4;
    private static final int TIME = 5;
    private static final int PASSES_SPEAKS_OF = 1 << DELAY | 1 << LEVEL | 1 << LANE | 1 << STRESS | 1 << DRIFT;
    private static final int EDGE_SPEAKS_OF = 1 << DELAY | 1 << LANE | 1 << DRIFT;
    private static final int DRIFTS_SPEAKS_OF = 1 << TIME;

    /* What a law's code does; the code behind a jump's number is always further on. */
    private static final int OP_NUMBER = 0;
    private static final int OP_VALUE = 1;
    private static final int OP_ADD = 2;
    private static final int OP_SUBTRACT = 3;
    private static final int OP_TIMES = 4;
    private static final int OP_EQUAL = 5;
    private static final int OP_LESS = 6;
    private static final int OP_GREATER = 7;
    private static final int OP_NOT = 8;
    private static final int OP_AND = 9;
    private static final int OP_OR = 10;
    private static final int OP_UNLESS = 11;
    private static final int OP_JUMP = 12;
    private static final int OP_BITS = 4;
    private static final int OP_MASK = 15;

    /* Kinds of TOKENS beside the signs, whose kind is their byte; a law's words stand at WORD and their place. */
    private static final int STOPPED = -2;
    private static final int NO_TOKEN = -1;
    private static final int TEXT_END = 0;
    private static final int NUMBER = 1;
    private static final int WORD = 200;
    private static final int WORD_LAB = 206;
    private static final int WORD_ASPECT = 207;
    private static final int WORD_HOLD = 208;
    private static final int WORD_AT = 209;
    private static final int WORD_WIDE = 210;
    private static final int WORD_HIGH = 211;
    private static final int WORD_PATTERN = 212;
    private static final int WORD_PASSES = 213;
    private static final int WORD_EDGE = 214;
    private static final int WORD_DRIFTS = 215;
    private static final int WORD_IF = 216;
    private static final int WORD_THEN = 217;
    private static final int WORD_ELSE = 218;
    private static final int WORD_END = 219;
    private static final int WORD_OR = 220;
    private static final int WORD_AND = 221;
    private static final int WORD_NOT = 222;
    private static final int WORD_OTHER = 223;

    private final byte[] tape;
    private int taped;
    private final Reader reader;
    private final Maps maps;
    private final Shapes shapes;
    private final Stand now;
    /** Where a call began that may have to go back. */
    private final Stand before;
    private final Stand[] past;
    private int undoable;
    private final Tray[] trays;
    private final Image[] images;
    /** Numbers for each DELAY, while a call counts. */
    private int[] byDelay;
    private int[] nextByDelay;
    private final int[] patternRows;

    public EyeTrainer() {
        tape = new byte[TEXT_MOST];
        reader = new Reader();
        maps = new Maps(new Lab());
        shapes = new Shapes();
        now = new Stand();
        before = new Stand();
        past = new Stand[UNDO_MOST];
        for (int i = 0; i < UNDO_MOST; i++) {
            past[i] = new Stand();
        }
        trays = new Tray[TRAYS];
        for (int i = 0; i < TRAYS; i++) {
            trays[i] = new Tray();
        }
        images = new Image[IMAGES];
        for (int i = 0; i < IMAGES; i++) {
            images[i] = new Image();
        }
        byDelay = new int[DELAYS];
        nextByDelay = new int[DELAYS];
        patternRows = new int[PATTERNS_MOST];
    }

    // ---- the lab

    public int feed(int a, int b, int c, int d, int e) {
        if (taped + 20 > TEXT_MOST) {
            return NOT_NOW;
        }
        putBytes(a);
        putBytes(b);
        putBytes(c);
        putBytes(d);
        putBytes(e);
        return taped;
    }

    public int lab(int n) {
        if (n < 0 || n > taped) {
            return BAD_NUMBER;
        }
        taped = 0;
        Lab told = reader.read(tape, n);
        if (told == null) {
            return TEXT_FAULT - reader.faultKind;
        }
        maps.useLab(told);
        now.clear();
        undoable = 0;
        return told.lines;
    }

    public int fault(int what) {
        switch (what) {
            case 0:
                return reader.faultKind;
            case 1:
                return reader.faultPlace;
            default:
                return NONE;
        }
    }

    public int lane(int l, int what) {
        if (noLane(l)) {
            return NO_SUCH;
        }
        switch (what) {
            case 0:
                return maps.lab.ats[l];
            case 1:
                return maps.lab.mids[l];
            case 2:
                return maps.lab.wides[l];
            case 3:
                return maps.lab.highs[l];
            case 4:
                return now.points[l];
            case 5:
                return passesInPoint(l) ? 1 : 0;
            default:
                return NO_SUCH;
        }
    }

    public int stress(int p) {
        return p < 0 || p >= maps.lab.patterns ? NO_SUCH : maps.lab.stresses[p + 1];
    }

    public int drift(int t) {
        return t < 0 || t > TIME_MOST ? BAD_TIME : maps.driftAt(t);
    }

    public int passes(int l, int cell) {
        if (noLane(l) || noCell(cell)) {
            return NO_SUCH;
        }
        return rowNow(l, cell / DELAYS) >> cell % DELAYS & 1;
    }

    public int row(int l, int level) {
        return noLane(l) || level < 0 || level >= LEVELS ? NO_SUCH : rowNow(l, level);
    }

    public int risen(int l) {
        return noLane(l) ? NO_SUCH : maps.risenAt(l, maps.driftAt(now.time));
    }

    // ---- deeds

    public int place(int l, int cell) {
        if (noLane(l) || noCell(cell)) {
            return WHY_NOT - 1;
        }
        remember(now);
        now.points[l] = cell;
        return passesInPoint(l) ? 1 : 0;
    }

    public int train(int l, int how) {
        int cell = trainedPoint(l, how);
        if (cell < 0) {
            return WHY_NOT + cell;
        }
        remember(now);
        now.points[l] = cell;
        return cell;
    }

    public int ticks(int n) {
        if (n < 1 || n > TICKS_MOST) {
            return BAD_NUMBER;
        }
        remember(now);
        now.time += n;
        return Integer.bitCount(passingLanes());
    }

    public int follow(int n) {
        if (n < 1 || n > TICKS_MOST) {
            return BAD_NUMBER;
        }
        remember(now);
        for (int i = 0; i < n; i++) {
            now.time++;
            followAll();
        }
        return Integer.bitCount(passingLanes());
    }

    public int pattern(int p) {
        if (noPatternToUse(p)) {
            return WHY_NOT - 1;
        }
        remember(now);
        int was = now.pattern;
        now.pattern = p;
        return was;
    }

    public int undo(int n) {
        if (n < 1 || n > undoable) {
            return BAD_NUMBER;
        }
        undoable -= n;
        now.copy(past[undoable]);
        return undoable;
    }

    public int judge(int tray, int what) {
        if (noTray(tray) || what < 0 || what > 3) {
            return NO_SUCH;
        }
        Tray told = trays[tray];
        if (told.isMissing()) {
            return TRAY_MISSING;
        }
        before.copy(now);
        int done = doDeeds(told);
        int why = done < told.size ? doDeed(told.numbers[done]) : 0;
        int answer = judged(what, why == 0 ? NONE : done, why);
        now.copy(before);
        return answer;
    }

    public int perform(int tray) {
        if (noTray(tray)) {
            return NO_SUCH;
        }
        Tray told = trays[tray];
        if (told.isMissing()) {
            return TRAY_MISSING;
        }
        before.copy(now);
        int done = doDeeds(told);
        if (done > 0) {
            remember(before);
        }
        return done;
    }

    public int day(int seed, int times) {
        if (times < 1 || times > DAY_MOST) {
            return BAD_NUMBER;
        }
        before.copy(now);
        Draws draws = new Draws(seed);
        int done = 0;
        for (int i = 0; i < times; i++) {
            if (doDeed(draws.nextDeed()) == 0) {
                done++;
            }
        }
        if (done > 0) {
            remember(before);
        }
        return done;
    }

    // ---- maps

    public int area(int l) {
        if (noLane(l)) {
            return NO_SUCH;
        }
        look(l);
        return shapes.cells();
    }

    public int eyes(int l) {
        if (noLane(l)) {
            return NO_SUCH;
        }
        look(l);
        shapes.findEyes();
        return shapes.eyesFound;
    }

    public int greatest(int l) {
        if (noLane(l)) {
            return NO_SUCH;
        }
        look(l);
        shapes.findEyes();
        return shapes.greatestEye;
    }

    public int rectangle(int l, int what) {
        if (noLane(l) || what < 0 || what > 5) {
            return NO_SUCH;
        }
        look(l);
        shapes.findRectangle();
        if (shapes.most == 0) {
            return NONE;
        }
        switch (what) {
            case 0:
                return shapes.most;
            case 1:
                return shapes.left;
            case 2:
                return shapes.right;
            case 3:
                return shapes.low;
            case 4:
                return shapes.high;
            default:
                return shapes.middle();
        }
    }

    public int ellipse(int l, int what) {
        if (noLane(l) || what < 0 || what > 1) {
            return NO_SUCH;
        }
        look(l);
        shapes.findEllipse(maps.lab.aspect);
        return what == 0 ? shapes.ellipseSize : shapes.ellipseCell;
    }

    public int margin(int l, int side) {
        if (noLane(l) || side < 0 || side >= SIDES) {
            return NO_SUCH;
        }
        if (!passesInPoint(l)) {
            return NOT_NOW;
        }
        look(l);
        return shapes.marginOf(now.points[l], side);
    }

    public int edge(int l) {
        return noLane(l) ? NO_SUCH : edgeOf(l);
    }

    public int lag(int l) {
        if (noLane(l)) {
            return NO_SUCH;
        }
        int own = 0;
        int last = 0;
        for (int k = 0; k < maps.lab.lanes; k++) {
            look(k);
            shapes.findRectangle();
            if (shapes.most == 0) {
                return NONE;
            }
            int delay = shapes.middle() % DELAYS;
            last = Math.max(last, delay);
            own = k == l ? delay : own;
        }
        return last - own;
    }

    public int bus(int what) {
        if (what < 0 || what > 2) {
            return NO_SUCH;
        }
        if (maps.lab.lanes == 0) {
            return NONE;
        }
        int bits = ALL_DELAYS;
        for (int l = 0; l < maps.lab.lanes; l++) {
            bits &= rowNow(l, now.points[l] / DELAYS);
        }
        if (what == 0) {
            return bits;
        }
        int most = Bits.longest(bits);
        if (what == 1) {
            return most;
        }
        return most == 0 ? NONE : Bits.firstRun(bits, most);
    }

    // ---- patterns

    public int harshest(int l) {
        if (noLane(l)) {
            return NO_SUCH;
        }
        int drift = maps.driftAt(now.time);
        int fewest = CELLS + 1;
        int found = NONE;
        for (int p = 0; p < maps.lab.patterns; p++) {
            int cells = 0;
            for (int level = 0; level < LEVELS; level++) {
                cells += Integer.bitCount(maps.passing(l, p, drift, level));
            }
            if (cells < fewest) {
                fewest = cells;
                found = p;
            }
        }
        return found;
    }

    public int tell(int l, int what) {
        if (noLane(l) || what < 0 || what > 1) {
            return NO_SUCH;
        }
        if (maps.lab.patterns == 0) {
            return NONE;
        }
        int able = (1 << (1 << maps.lab.patterns)) - 1;
        int drift = maps.driftAt(now.time);
        for (int level = 0; level < LEVELS; level++) {
            able &= tellingSets(l, drift, level);
        }
        int fewest = PATTERNS_MOST + 1;
        int found = 0;
        for (int set = 0; set < 1 << maps.lab.patterns; set++) {
            if ((able >> set & 1) != 0 && Integer.bitCount(set) < fewest) {
                fewest = Integer.bitCount(set);
                found = set;
            }
        }
        return what == 0 ? fewest : found;
    }

    // ---- going

    public int later(int l, int n) {
        if (noLane(l)) {
            return NO_SUCH;
        }
        if (n < 0 || n > GOING_MOST) {
            return BAD_NUMBER;
        }
        return passesLater(l, n) ? 1 : 0;
    }

    public int holds(int l) {
        if (noLane(l)) {
            return NO_SUCH;
        }
        // The laws know the TIME by its rest alone: what holds so long holds on.
        for (int n = 0; n < TIMES; n++) {
            if (!passesLater(l, n)) {
                return n;
            }
        }
        return NONE;
    }

    public int follows(int l) {
        if (noLane(l)) {
            return NO_SUCH;
        }
        if (!passesInPoint(l)) {
            return 0;
        }
        int level = now.points[l] / DELAYS;
        int delay = now.points[l] % DELAYS;
        for (int n = 1; n <= GOING_MOST; n++) {
            int bits = maps.passing(l, now.pattern, maps.driftAt(now.time + n), level);
            if ((bits >> delay & 1) == 0) {
                return n;
            }
            delay = Bits.followed(bits, delay);
        }
        return NONE;
    }

    public int at(int l, int n) {
        if (noLane(l)) {
            return NO_SUCH;
        }
        if (n < 0 || n > GOING_MOST) {
            return BAD_NUMBER;
        }
        int level = now.points[l] / DELAYS;
        int delay = now.points[l] % DELAYS;
        for (int i = 1; i <= n; i++) {
            int bits = maps.passing(l, now.pattern, maps.driftAt(now.time + i), level);
            delay = Bits.followed(bits, delay);
        }
        return level * DELAYS + delay;
    }

    // ---- steps

    public int steps(int l) {
        if (noLane(l)) {
            return NO_SUCH;
        }
        look(l);
        if (shapes.cells() == 0) {
            return NONE;
        }
        shapes.measureSteps();
        return shapes.cellNumbers[now.points[l]];
    }

    public int way(int l, int i) {
        if (noLane(l)) {
            return NO_SUCH;
        }
        if (i < 0) {
            return BAD_NUMBER;
        }
        look(l);
        if (shapes.cells() == 0) {
            return NONE;
        }
        shapes.measureSteps();
        return i >= shapes.cellNumbers[now.points[l]] ? NONE : shapes.stepOfWay(now.points[l], i);
    }

    public long ways(int l, int n) {
        if (noLane(l)) {
            return NO_SUCH;
        }
        if (n < 0 || n > STEPS_MOST) {
            return BAD_NUMBER;
        }
        look(l);
        return shapes.countWays(now.points[l], n);
    }

    // ---- seen

    public int drifts(int tray, int l) {
        int refused = unseen(tray, l);
        return refused != 0 ? refused : seenDrifts(trays[tray], l);
    }

    public int attempt(int tray, int l) {
        int refused = unseen(tray, l);
        if (refused != 0) {
            return refused;
        }
        int seen = seenDrifts(trays[tray], l);
        int least = DRIFT_SORTS + 1;
        int found = NONE;
        for (int level = 0; level < LEVELS && seen != 0; level++) {
            countPassing(l, level, seen);
            for (int delay = 0; delay < DELAYS; delay++) {
                int greater = Math.max(byDelay[delay], Integer.bitCount(seen) - byDelay[delay]);
                if (greater < least) {
                    least = greater;
                    found = level * DELAYS + delay;
                }
            }
        }
        return found;
    }

    // ---- chances

    public int chance(int l, int n, int what) {
        if (noLane(l) || what < 0 || what > 1) {
            return NO_SUCH;
        }
        if (n < 0 || n > MOMENTS_MOST) {
            return BAD_NUMBER;
        }
        return lowestTerms(passingLots(l, n), n, what);
    }

    public int mean(int n, int what) {
        if (what < 0 || what > 1) {
            return NO_SUCH;
        }
        if (n < 0 || n > MOMENTS_MOST) {
            return BAD_NUMBER;
        }
        int above = 0;
        for (int l = 0; l < maps.lab.lanes; l++) {
            above += passingLots(l, n);
        }
        return lowestTerms(above, n, what);
    }

    // ---- trays, images

    public int numbers(int tray, int sort, int n) {
        if (noTray(tray) || sort < 0 || sort >= SORTS) {
            return NO_SUCH;
        }
        if (n < 0 || n > NUMBERS_MOST) {
            return BAD_NUMBER;
        }
        trays[tray].hold(sort, n);
        return 0;
    }

    public long write(int tray, int i, long v) {
        if (noTray(tray)) {
            return NO_SUCH;
        }
        Tray told = trays[tray];
        if (told.isMissing()) {
            return TRAY_MISSING;
        }
        if (i < 0 || i >= told.size) {
            return NO_NUMBER;
        }
        told.put(i, v);
        return told.numbers[i];
    }

    public int lists(int tray, int l) {
        if (noTray(tray) || noLane(l)) {
            return NO_SUCH;
        }
        Tray told = trays[tray];
        if (told.isMissing()) {
            return TRAY_MISSING;
        }
        int listed = 0;
        for (int i = 0; i < told.size; i++) {
            long v = told.numbers[i];
            if (v >= 0 && v < CELLS) {
                int cell = (int) v;
                told.put(i, 2 * v + (rowNow(l, cell / DELAYS) >> cell % DELAYS & 1));
                listed++;
            }
        }
        return listed;
    }

    public int image(int i) {
        if (i < 0 || i >= IMAGES) {
            return NO_SUCH;
        }
        images[i].lab = maps.lab;
        images[i].stand.copy(now);
        return 0;
    }

    public int restore(int i) {
        if (i < 0 || i >= IMAGES) {
            return NO_SUCH;
        }
        Lab kept = images[i].lab;
        if (kept == null) {
            return NOT_NOW;
        }
        maps.useLab(kept);
        now.copy(images[i].stand);
        undoable = 0;
        return 0;
    }

    public int count(int what) {
        switch (what) {
            case 0:
                return maps.lab.lanes;
            case 1:
                return maps.lab.patterns;
            case 2:
                return maps.lab.aspect;
            case 3:
                return maps.lab.hold;
            case 4:
                return now.time;
            case 5:
                return now.pattern;
            case 6:
                return passingLanes();
            case 7:
                return undoable;
            case 8:
                return taped;
            case 9:
                return maps.lab.lines;
            default:
                return NONE;
        }
    }

    // ---- what the calls share

    private void putBytes(int four) {
        for (int shift = 24; shift >= 0 && taped < TEXT_MOST; shift -= 8) {
            tape[taped] = (byte) (four >> shift);
            taped++;
        }
    }

    private boolean noLane(int l) {
        return l < 0 || l >= maps.lab.lanes;
    }

    private static boolean noCell(int cell) {
        return cell < 0 || cell >= CELLS;
    }

    private boolean noPatternToUse(int p) {
        return p < NONE || p >= maps.lab.patterns;
    }

    private static boolean noTray(int tray) {
        return tray < 0 || tray >= TRAYS;
    }

    private int rowNow(int l, int level) {
        return maps.passing(l, now.pattern, maps.driftAt(now.time), level);
    }

    private boolean passesInPoint(int l) {
        return passesLater(l, 0);
    }

    private boolean passesLater(int l, int n) {
        int cell = now.points[l];
        int bits = maps.passing(l, now.pattern, maps.driftAt(now.time + n), cell / DELAYS);
        return (bits >> cell % DELAYS & 1) != 0;
    }

    private int passingLanes() {
        int bits = 0;
        for (int l = 0; l < maps.lab.lanes; l++) {
            bits |= passesInPoint(l) ? 1 << l : 0;
        }
        return bits;
    }

    /** The MAP of a LANE is what the shapes are found in. */
    private void look(int l) {
        int drift = maps.driftAt(now.time);
        for (int level = 0; level < LEVELS; level++) {
            shapes.map[level] = maps.passing(l, now.pattern, drift, level);
        }
    }

    private int edgeOf(int l) {
        int bits = maps.risenAt(l, maps.driftAt(now.time));
        int hold = maps.lab.hold;
        int held = (1 << hold) - 1;
        for (int d = 1; d + hold <= DELAYS; d++) {
            if ((bits >> d - 1 & 1) == 0 && (bits >> d & held) == held) {
                return d;
            }
        }
        return NONE;
    }

    /** The CELL that a LANE would be TRAINED to, or why not, less than 0. */
    private int trainedPoint(int l, int how) {
        if (noLane(l) || how < 0 || how > 2) {
            return -1;
        }
        if (how == 2) {
            int delay = edgeOf(l);
            return delay == NONE ? -2 : now.points[l] / DELAYS * DELAYS + delay;
        }
        look(l);
        if (shapes.cells() == 0) {
            return -2;
        }
        if (how == 0) {
            shapes.findRectangle();
            return shapes.middle();
        }
        shapes.findEllipse(maps.lab.aspect);
        return shapes.ellipseCell;
    }

    private void followAll() {
        for (int l = 0; l < maps.lab.lanes; l++) {
            int level = now.points[l] / DELAYS;
            int delay = now.points[l] % DELAYS;
            now.points[l] = level * DELAYS + Bits.followed(rowNow(l, level), delay);
        }
    }

    /** What was so ahead of a call that did some DEEDS; the eldest is forgotten. */
    private void remember(Stand stand) {
        if (undoable == UNDO_MOST) {
            Stand eldest = past[0];
            for (int i = 1; i < UNDO_MOST; i++) {
                past[i - 1] = past[i];
            }
            past[UNDO_MOST - 1] = eldest;
            undoable--;
        }
        past[undoable].copy(stand);
        undoable++;
    }

    /** Does a DEED: 0, or why not. */
    private int doDeed(long v) {
        if (v == 0 || v == 1) {
            now.time++;
            if (v == 1) {
                followAll();
            }
            return 0;
        }
        if (v >= 10 && v <= 14) {
            int p = (int) v - 11;
            if (noPatternToUse(p)) {
                return 1;
            }
            now.pattern = p;
            return 0;
        }
        if (v >= 100 && v <= 199) {
            int l = ((int) v - 100) / 10;
            int cell = trainedPoint(l, (int) v % 10);
            if (cell < 0) {
                return -cell;
            }
            now.points[l] = cell;
            return 0;
        }
        if (v >= 10000 && v <= 15999) {
            int l = ((int) v - 10000) / 1000;
            int cell = (int) v % 1000;
            if (noLane(l) || noCell(cell)) {
                return 1;
            }
            now.points[l] = cell;
            return 0;
        }
        return 1;
    }

    private int doDeeds(Tray told) {
        for (int i = 0; i < told.size; i++) {
            if (doDeed(told.numbers[i]) != 0) {
                return i;
            }
        }
        return told.size;
    }

    private int judged(int what, int firstBad, int why) {
        switch (what) {
            case 0:
                return firstBad;
            case 1:
                return why;
            case 2:
                int sum = 0;
                for (int l = 0; l < maps.lab.lanes; l++) {
                    sum += now.points[l];
                }
                return sum;
            default:
                return passingLanes();
        }
    }

    /** Sets of PATTERNS that tell as much as all at a LEVEL, a bit for each set. */
    private int tellingSets(int l, int drift, int level) {
        int patterns = maps.lab.patterns;
        int all = ALL_DELAYS;
        for (int p = 0; p < patterns; p++) {
            patternRows[p] = maps.passing(l, p, drift, level);
            all &= patternRows[p];
        }
        int able = 0;
        for (int set = 0; set < 1 << patterns; set++) {
            int some = ALL_DELAYS;
            for (int p = 0; p < patterns; p++) {
                some &= (set >> p & 1) != 0 ? patternRows[p] : ALL_DELAYS;
            }
            able |= some == all ? 1 << set : 0;
        }
        return able;
    }

    /** Why what a TRAY tells of a LANE can't be SEEN, or 0. */
    private int unseen(int tray, int l) {
        if (noTray(tray) || noLane(l)) {
            return NO_SUCH;
        }
        Tray told = trays[tray];
        if (told.isMissing()) {
            return TRAY_MISSING;
        }
        if (told.size < 1 || told.size > SEEN_MOST) {
            return TOO_MANY;
        }
        for (int i = 0; i < told.size; i++) {
            if (told.numbers[i] < 0 || told.numbers[i] > SEEN_TOP) {
                return BAD_NUMBER;
            }
        }
        return 0;
    }

    private int seenDrifts(Tray told, int l) {
        int bits = 0;
        for (int k = 0; k < DRIFT_SORTS; k++) {
            bits |= agrees(told, l, k - DRIFT_MOST) ? 1 << k : 0;
        }
        return bits;
    }

    private boolean agrees(Tray told, int l, int drift) {
        for (int i = 0; i < told.size; i++) {
            int seen = (int) told.numbers[i];
            int cell = seen / 2;
            int bits = maps.passing(l, now.pattern, drift, cell / DELAYS);
            if ((bits >> cell % DELAYS & 1) != (seen & 1)) {
                return false;
            }
        }
        return true;
    }

    /** For each DELAY at a LEVEL by how many of some DRIFTS the LANE passes. */
    private void countPassing(int l, int level, int some) {
        Arrays.fill(byDelay, 0);
        for (int k = 0; k < DRIFT_SORTS; k++) {
            if ((some >> k & 1) != 0) {
                int bits = maps.passing(l, now.pattern, k - DRIFT_MOST, level);
                for (int delay = 0; delay < DELAYS; delay++) {
                    byDelay[delay] += bits >> delay & 1;
                }
            }
        }
    }

    /** In how many of all rows of n lots a LANE passes in its POINT behind them. */
    private int passingLots(int l, int n) {
        Arrays.fill(byDelay, 0);
        byDelay[now.points[l] % DELAYS] = 1;
        for (int i = 0; i < n; i++) {
            drawLot();
        }
        int bits = rowNow(l, now.points[l] / DELAYS);
        int sum = 0;
        for (int delay = 0; delay < DELAYS; delay++) {
            sum += (bits >> delay & 1) * byDelay[delay];
        }
        return sum;
    }

    private void drawLot() {
        Arrays.fill(nextByDelay, 0);
        for (int delay = 0; delay < DELAYS; delay++) {
            nextByDelay[Math.max(delay - 1, 0)] += byDelay[delay];
            nextByDelay[Math.min(delay + 1, DELAYS - 1)] += byDelay[delay];
            nextByDelay[delay] += (LOTS - 2) * byDelay[delay];
        }
        int[] spare = byDelay;
        byDelay = nextByDelay;
        nextByDelay = spare;
    }

    private static int lowestTerms(int above, int moments, int what) {
        int below = 1;
        for (int i = 0; i < moments; i++) {
            below *= LOTS;
        }
        int a = below;
        int b = above;
        for (int i = 0; i < 64 && b != 0; i++) {
            int rest = a % b;
            a = b;
            b = rest;
        }
        if (a == 0) {
            return NONE;
        }
        return what == 0 ? above / a : below / a;
    }

    /** Rows of DELAYS as bits. */
    private static final class Bits {
        /** How many of the bits stand next to one another at most. */
        static int longest(int bits) {
            int most = 0;
            int left = bits;
            while (left != 0 && most < DELAYS) {
                left &= left >>> 1;
                most++;
            }
            return most;
        }

        /** Where the first so many bits next to one another begin. */
        static int firstRun(int bits, int many) {
            int run = (1 << many) - 1;
            for (int d = 0; d + many <= DELAYS; d++) {
                if ((bits >> d & run) == run) {
                    return d;
                }
            }
            return NONE;
        }

        /** A DELAY behind FOLLOWING in a row. */
        static int followed(int bits, int delay) {
            if ((bits >> delay & 1) == 0) {
                return delay;
            }
            int left = delay;
            while (left > 0 && (bits >> left - 1 & 1) != 0) {
                left--;
            }
            int right = delay;
            while (right < DELAYS - 1 && (bits >> right + 1 & 1) != 0) {
                right++;
            }
            int aim = (left + right) / 2;
            if (aim == delay) {
                return delay;
            }
            return aim < delay ? delay - 1 : delay + 1;
        }
    }

    /** What can be brought back by UNDOING. */
    private static final class Stand {
        final int[] points;
        int time;
        int pattern;

        Stand() {
            points = new int[LANES_MOST];
            pattern = NONE;
        }

        void clear() {
            Arrays.fill(points, 0);
            time = 0;
            pattern = NONE;
        }

        void copy(Stand other) {
            for (int l = 0; l < LANES_MOST; l++) {
                points[l] = other.points[l];
            }
            time = other.time;
            pattern = other.pattern;
        }
    }

    private static final class Image {
        final Stand stand;
        Lab lab;

        Image() {
            stand = new Stand();
        }
    }

    private static final class Tray {
        final long[] numbers;
        int sort;
        int size;

        Tray() {
            numbers = new long[NUMBERS_MOST];
            size = NONE;
        }

        boolean isMissing() {
            return size == NONE;
        }

        void hold(int newSort, int newSize) {
            sort = newSort;
            size = newSize;
            Arrays.fill(numbers, 0L);
        }

        void put(int i, long v) {
            switch (sort) {
                case 0:
                    numbers[i] = (byte) v;
                    break;
                case 1:
                    numbers[i] = (short) v;
                    break;
                case 2:
                    numbers[i] = (int) v;
                    break;
                default:
                    numbers[i] = v;
                    break;
            }
        }
    }

    /** DRAWS by a SEED, and the DEEDS of a DAY that they tell. */
    private static final class Draws {
        private int x;

        Draws(int seed) {
            x = seed;
        }

        private int draw() {
            x = 1103515245 * x + 12345;
            return x >>> 16;
        }

        int nextDeed() {
            switch (draw() % 6) {
                case 0:
                    return 0;
                case 1:
                case 2:
                    return 1;
                case 3:
                    return 10 + draw() % 5;
                case 4:
                    int trained = 100 + 10 * (draw() % 6);
                    return trained + draw() % 3;
                default:
                    int placed = 10000 + 1000 * (draw() % 6);
                    return placed + draw() % CELLS;
            }
        }
    }

    /** THE LAB, as its text tells it; nobody changes it once it has been read. */
    private static final class Lab {
        final int[] ats;
        final int[] mids;
        final int[] wides;
        final int[] highs;
        final int[] stresses;
        int aspect;
        int hold;
        int lanes;
        int patterns;
        int lines;
        Law passesLaw;
        Law edgeLaw;
        Law driftsLaw;

        Lab() {
            ats = new int[LANES_MOST];
            mids = new int[LANES_MOST];
            wides = new int[LANES_MOST];
            highs = new int[LANES_MOST];
            // The STRESS of no PATTERN, 0, stands ahead of theirs.
            stresses = new int[PATTERNS_MOST + 1];
            aspect = 1;
            hold = 1;
        }
    }

    /** A law as code for one number in hand and a stack of those that wait. */
    private static final class Law {
        private final int[] code;
        final int used;

        Law(int[] code, int used) {
            this.code = code;
            this.used = used;
        }

        /** What it tells by these values (8 of them); a TRUTH that holds is 1, else 0. */
        int valueBy(int[] values, int[] stack) {
            int hand = 0;
            int top = 0;
            for (int i = 0; i < code.length; i++) {
                int op = code[i] & OP_MASK;
                int operand = code[i] >> OP_BITS;
                if (op <= OP_VALUE && top < stack.length) {
                    stack[top] = hand;
                    top++;
                    hand = op == OP_NUMBER ? operand : values[operand & 7];
                } else if (op == OP_NOT) {
                    hand = 1 - hand;
                } else if (op == OP_JUMP || op == OP_AND && hand == 0 || op == OP_OR && hand != 0) {
                    i = operand > i ? operand - 1 : i;
                } else if (top > 0) {
                    top--;
                    long v = stack[top];
                    switch (op) {
                        case OP_ADD:
                            v += hand;
                            break;
                        case OP_SUBTRACT:
                            v -= hand;
                            break;
                        case OP_TIMES:
                            v *= hand;
                            break;
                        case OP_EQUAL:
                            v = v == hand ? 1 : 0;
                            break;
                        case OP_LESS:
                            v = v < hand ? 1 : 0;
                            break;
                        case OP_GREATER:
                            v = v > hand ? 1 : 0;
                            break;
                        default:
                            // OP_AND, OP_OR and OP_UNLESS drop the TRUTH in hand.
                            i = op == OP_UNLESS && hand == 0 && operand > i ? operand - 1 : i;
                            break;
                    }
                    hand = v > VALUE_MOST ? VALUE_MOST : v < -VALUE_MOST ? -VALUE_MOST : (int) v;
                }
            }
            return hand;
        }
    }

    /** Where the LANES of THE LAB pass and how all drifts; what has been found once is kept. */
    private static final class Maps {
        private static final int UNKNOWN = 99;
        private static final int ALL_USED = -1;

        Lab lab;
        private final int[] drifts;
        /** Rows of DELAYS as bits, above them the age of THE LAB and the PATTERN for which each was found. */
        private final long[] rows;
        private long age;
        private final int[] values;
        private final int[] stack;

        Maps(Lab first) {
            lab = first;
            drifts = new int[TIMES];
            Arrays.fill(drifts, UNKNOWN);
            // PATTERNS share their rows, so that a new object stays small.
            rows = new long[LANES_MOST * DRIFT_SORTS * LEVELS];
            age = 1;
            values = new int[8];
            stack = new int[64];
        }

        void useLab(Lab next) {
            lab = next;
            age++;
            Arrays.fill(drifts, UNKNOWN);
        }

        int driftAt(int time) {
            int rest = Math.floorMod(time, TIMES);
            if (lab.driftsLaw == null) {
                return 0;
            }
            if (drifts[rest] == UNKNOWN) {
                values[TIME] = rest;
                int told = lab.driftsLaw.valueBy(values, stack);
                drifts[rest] = Math.max(-DRIFT_MOST, Math.min(DRIFT_MOST, told));
            }
            return drifts[rest];
        }

        /** DELAYS at a LEVEL in which a LANE passes by a PATTERN (or NONE) and a DRIFT, as bits. */
        int passing(int lane, int pattern, int drift, int level) {
            Law law = lab.passesLaw;
            // What the law doesn't speak of can't change the row: one row serves for all of it.
            int used = law == null ? ALL_USED : law.used;
            int k = (used >> LANE & 1) == 0 ? 0 : lane;
            k = k * DRIFT_SORTS + ((used >> DRIFT & 1) == 0 ? 0 : drift + DRIFT_MOST);
            k = k * LEVELS + ((used >> LEVEL & 1) == 0 ? 0 : level);
            long mark = age * (PATTERNS_MOST + 1) + ((used >> STRESS & 1) == 0 ? 0 : pattern + 1);
            if (rows[k] >> DELAYS == mark) {
                return (int) rows[k] & ALL_DELAYS;
            }
            values[LEVEL] = level;
            values[LANE] = lane;
            values[STRESS] = lab.stresses[pattern + 1];
            values[DRIFT] = drift;
            int bits = 0;
            for (int delay = 0; delay < DELAYS; delay++) {
                values[DELAY] = delay;
                boolean in = law == null ? isInPlainEye() : law.valueBy(values, stack) != 0;
                bits |= in ? 1 << delay : 0;
            }
            rows[k] = mark << DELAYS | bits;
            return bits;
        }

        /** Whether a LANE passes without a law. */
        private boolean isInPlainEye() {
            int lane = values[LANE];
            int wide = lab.wides[lane] - values[STRESS];
            int high = lab.highs[lane];
            int delaysOff = Math.abs(values[DELAY] - lab.ats[lane] - values[DRIFT]);
            int levelsOff = Math.abs(values[LEVEL] - lab.mids[lane]);
            return wide >= 1 && delaysOff * high + levelsOff * wide < wide * high;
        }

        /** DELAYS at which the CLOCK of a LANE has RISEN by a DRIFT, as bits. */
        int risenAt(int lane, int drift) {
            Law law = lab.edgeLaw;
            values[LANE] = lane;
            values[DRIFT] = drift;
            int bits = 0;
            for (int delay = 0; delay < DELAYS; delay++) {
                values[DELAY] = delay;
                boolean up = law == null ? delay >= lab.ats[lane] + drift : law.valueBy(values, stack) != 0;
                bits |= up ? 1 << delay : 0;
            }
            return bits;
        }
    }

    /** What is found in one MAP, a row of bits for each LEVEL. */
    private static final class Shapes {
        private static final int FAR = 99;
        /* A place more on each side of the CELLS, so that walks need not look where the CELLS end. */
        private static final int WALK_WIDE = DELAYS + 2;
        private static final int WALK_PLACES = WALK_WIDE * (LEVELS + 2);

        final int[] map;
        final int[] cellNumbers;
        private final int[] rest;
        private long[] walks;
        private long[] nextWalks;
        int most;
        int left;
        int right;
        int low;
        int high;
        int ellipseSize;
        int ellipseCell;
        int eyesFound;
        int greatestEye;

        Shapes() {
            map = new int[LEVELS];
            cellNumbers = new int[CELLS];
            rest = new int[LEVELS];
            walks = new long[WALK_PLACES];
            nextWalks = new long[WALK_PLACES];
        }

        int cells() {
            int sum = 0;
            for (int level = 0; level < LEVELS; level++) {
                sum += Integer.bitCount(map[level]);
            }
            return sum;
        }

        private boolean has(int cell) {
            return (map[cell / DELAYS] >> cell % DELAYS & 1) != 0;
        }

        /** The CELL behind a STEP, or NONE. */
        private static int beside(int cell, int step) {
            switch (step) {
                case 0:
                    return cell % DELAYS == 0 ? NONE : cell - 1;
                case 1:
                    return cell % DELAYS == DELAYS - 1 ? NONE : cell + 1;
                case 2:
                    return cell < DELAYS ? NONE : cell - DELAYS;
                default:
                    return cell >= CELLS - DELAYS ? NONE : cell + DELAYS;
            }
        }

        /** RECTANGLE; most is 0 if the MAP has no CELL. */
        void findRectangle() {
            most = 0;
            for (int from = 0; from < LEVELS; from++) {
                int bits = ALL_DELAYS;
                for (int to = from; to < LEVELS && bits != 0; to++) {
                    bits &= map[to];
                    int wide = Bits.longest(bits);
                    if (wide * (to - from + 1) > most) {
                        most = wide * (to - from + 1);
                        left = Bits.firstRun(bits, wide);
                        right = left + wide - 1;
                        low = from;
                        high = to;
                    }
                }
            }
        }

        int middle() {
            return (low + high) / 2 * DELAYS + (left + right) / 2;
        }

        /** ELLIPSE; NONE and NONE if the MAP has no CELL. */
        void findEllipse(int aspect) {
            ellipseSize = NONE;
            ellipseCell = NONE;
            for (int level = 0; level < LEVELS; level++) {
                measureGaps(level);
            }
            for (int cell = 0; cell < CELLS; cell++) {
                if (has(cell)) {
                    int size = nearestOutside(cell, aspect) - 1;
                    if (size > ellipseSize) {
                        ellipseSize = size;
                        ellipseCell = cell;
                    }
                }
            }
        }

        /** How far each DELAY at a LEVEL is from the nearest one not in the MAP (0: it is none). */
        private void measureGaps(int level) {
            int gap = 0;
            for (int delay = 0; delay < DELAYS; delay++) {
                int cell = level * DELAYS + delay;
                gap = has(cell) ? gap + 1 : 0;
                cellNumbers[cell] = gap;
            }
            gap = 0;
            for (int delay = DELAYS - 1; delay >= 0; delay--) {
                int cell = level * DELAYS + delay;
                gap = has(cell) ? gap + 1 : 0;
                cellNumbers[cell] = Math.min(cellNumbers[cell], gap);
            }
        }

        private int nearestOutside(int cell, int aspect) {
            int least = cellNumbers[cell] * cellNumbers[cell];
            for (int apart = 1; apart <= LEVELS && aspect * apart * apart < least; apart++) {
                int far = aspect * apart * apart;
                least = Math.min(least, far + squaredGap(cell - apart * DELAYS));
                least = Math.min(least, far + squaredGap(cell + apart * DELAYS));
            }
            return least;
        }

        private int squaredGap(int cell) {
            return cell < 0 || cell >= CELLS ? 0 : cellNumbers[cell] * cellNumbers[cell];
        }

        int marginOf(int cell, int side) {
            int beyond = 0;
            int place = beside(cell, side);
            while (beyond < DELAYS && place != NONE && has(place)) {
                beyond++;
                place = beside(place, side);
            }
            return beyond;
        }

        void findEyes() {
            eyesFound = 0;
            greatestEye = 0;
            for (int level = 0; level < LEVELS; level++) {
                rest[level] = map[level];
            }
            for (int cell = 0; cell < CELLS; cell++) {
                if (takeFromRest(cell)) {
                    eyesFound++;
                    greatestEye = Math.max(greatestEye, takeEye(cell));
                }
            }
        }

        private boolean takeFromRest(int cell) {
            if (cell == NONE || (rest[cell / DELAYS] >> cell % DELAYS & 1) == 0) {
                return false;
            }
            rest[cell / DELAYS] &= ~(1 << cell % DELAYS);
            return true;
        }

        /** Takes all that hangs together with a CELL that has been taken: how many. */
        private int takeEye(int first) {
            cellNumbers[0] = first;
            int taken = 1;
            for (int i = 0; i < CELLS && i < taken; i++) {
                for (int side = 0; side < SIDES; side++) {
                    int cell = beside(cellNumbers[i], side);
                    if (taken < CELLS && takeFromRest(cell)) {
                        cellNumbers[taken] = cell;
                        taken++;
                    }
                }
            }
            return taken;
        }

        /** How many STEPS each CELL is from the nearest one of the MAP: down and right, then up and left. */
        void measureSteps() {
            for (int cell = 0; cell < CELLS; cell++) {
                cellNumbers[cell] = has(cell) ? 0 : Math.min(stepsFrom(cell, 0), stepsFrom(cell, 2));
            }
            for (int cell = CELLS - 1; cell >= 0; cell--) {
                int back = Math.min(stepsFrom(cell, 1), stepsFrom(cell, 3));
                cellNumbers[cell] = Math.min(cellNumbers[cell], back);
            }
        }

        private int stepsFrom(int cell, int side) {
            int next = beside(cell, side);
            return next == NONE ? FAR : cellNumbers[next] + 1;
        }

        /** The i-th STEP of the first ROW, if there are so many. */
        int stepOfWay(int from, int i) {
            int cell = from;
            for (int k = 0; k < i && cell != NONE; k++) {
                cell = beside(cell, nearingStep(cell));
            }
            return cell == NONE ? NONE : nearingStep(cell);
        }

        private int nearingStep(int cell) {
            for (int step = 0; step < SIDES; step++) {
                int next = beside(cell, step);
                if (next != NONE && cellNumbers[next] < cellNumbers[cell]) {
                    return step;
                }
            }
            return NONE;
        }

        long countWays(int from, int steps) {
            Arrays.fill(walks, 0L);
            walks[walkPlace(from)] = 1;
            for (int i = 0; i < steps; i++) {
                stepAll();
            }
            long sum = 0;
            for (int cell = 0; cell < CELLS; cell++) {
                sum += has(cell) ? walks[walkPlace(cell)] : 0;
            }
            return sum;
        }

        private static int walkPlace(int cell) {
            return (cell / DELAYS + 1) * WALK_WIDE + cell % DELAYS + 1;
        }

        private void stepAll() {
            for (int cell = 0; cell < CELLS; cell++) {
                int place = walkPlace(cell);
                nextWalks[place] = walks[place - 1] + walks[place + 1]
                        + walks[place - WALK_WIDE] + walks[place + WALK_WIDE];
            }
            long[] spare = walks;
            walks = nextWalks;
            nextWalks = spare;
        }
    }

    /** A text cut into TOKENS, the last one its end or what no TOKEN begins with. */
    private static final class Tokens {
        private static final String SIGNS = ";:+-*()[]=<>";

        final int[] kinds;
        final int[] places;
        final int[] values;
        private int size;

        Tokens() {
            kinds = new int[TEXT_MOST + 1];
            places = new int[TEXT_MOST + 1];
            values = new int[TEXT_MOST + 1];
        }

        void cut(byte[] text, int length) {
            size = 0;
            int end = 0;
            // Nothing behind a place where no TOKEN begins is ever looked at.
            boolean goesOn = true;
            for (int place = 0; place < length && goesOn; place = Math.max(place + 1, end)) {
                int sign = text[place];
                if (isLetter(sign)) {
                    end = endOfWord(text, place, length);
                    add(kindOfWord(text, place, end - place), place, 0);
                } else if (isDigit(sign)) {
                    end = endOfDigits(text, place, length);
                    goesOn = end - place <= 3;
                    add(goesOn ? NUMBER : NO_TOKEN, place, valueOf(text, place, Math.min(end, place + 3)));
                } else if (sign != 10 && sign != 32) {
                    goesOn = sign > 0 && SIGNS.indexOf((char) sign) >= 0;
                    add(goesOn ? sign : NO_TOKEN, place, 0);
                }
            }
            add(TEXT_END, length, 0);
        }

        private void add(int kind, int place, int value) {
            if (size < kinds.length) {
                kinds[size] = kind;
                places[size] = place;
                values[size] = value;
                size++;
            }
        }

        private static boolean isLetter(int sign) {
            return sign >= 'a' && sign <= 'z';
        }

        private static boolean isDigit(int sign) {
            return sign >= '0' && sign <= '9';
        }

        private static int endOfWord(byte[] text, int from, int length) {
            int end = from;
            while (end < length && isLetter(text[end])) {
                end++;
            }
            return end;
        }

        private static int endOfDigits(byte[] text, int from, int length) {
            int end = from;
            while (end < length && isDigit(text[end])) {
                end++;
            }
            return end;
        }

        private static int valueOf(byte[] text, int from, int to) {
            int value = 0;
            for (int i = from; i < to; i++) {
                value = 10 * value + text[i] - '0';
            }
            return value;
        }

        private static int kindOfWord(byte[] text, int from, int length) {
            switch (length) {
                case 2:
                    return is("if", text, from) ? WORD_IF : is("or", text, from) ? WORD_OR
                            : is("at", text, from) ? WORD_AT : WORD_OTHER;
                case 3:
                    return is("and", text, from) ? WORD_AND : is("not", text, from) ? WORD_NOT
                            : is("end", text, from) ? WORD_END : is("lab", text, from) ? WORD_LAB : WORD_OTHER;
                case 4:
                    return kindOfFour(text, from);
                case 5:
                    return is("delay", text, from) ? WORD + DELAY : is("level", text, from) ? WORD + LEVEL
                            : is("drift", text, from) ? WORD + DRIFT : WORD_OTHER;
                case 6:
                    return is("stress", text, from) ? WORD + STRESS : is("passes", text, from) ? WORD_PASSES
                            : is("drifts", text, from) ? WORD_DRIFTS
                            : is("aspect", text, from) ? WORD_ASPECT : WORD_OTHER;
                case 7:
                    return is("pattern", text, from) ? WORD_PATTERN : WORD_OTHER;
                default:
                    return WORD_OTHER;
            }
        }

        private static int kindOfFour(byte[] text, int from) {
            if (is("lane", text, from)) {
                return WORD + LANE;
            }
            if (is("time", text, from)) {
                return WORD + TIME;
            }
            if (is("then", text, from)) {
                return WORD_THEN;
            }
            if (is("else", text, from)) {
                return WORD_ELSE;
            }
            if (is("hold", text, from)) {
                return WORD_HOLD;
            }
            if (is("wide", text, from)) {
                return WORD_WIDE;
            }
            if (is("high", text, from)) {
                return WORD_HIGH;
            }
            return is("edge", text, from) ? WORD_EDGE : WORD_OTHER;
        }

        private static boolean is(String word, byte[] text, int from) {
            for (int i = 0; i < word.length(); i++) {
                if (from + i >= text.length || word.charAt(i) != text[from + i]) {
                    return false;
                }
            }
            return true;
        }
    }

    /** Reads THE LAB from a text, or finds its FAULT. */
    private static final class Reader {
        private final Tokens tokens;
        private int next;
        int faultKind;
        int faultPlace;
        private final int[] code;
        private int coded;
        private int speaksOf;
        private int used;

        Reader() {
            tokens = new Tokens();
            faultPlace = NONE;
            // No TOKEN makes more than one piece of code.
            code = new int[TEXT_MOST];
        }

        /** THE LAB, or null with a FAULT. */
        Lab read(byte[] text, int length) {
            tokens.cut(text, length);
            next = 0;
            faultKind = 0;
            faultPlace = NONE;
            Lab lab = new Lab();
            expect(WORD_LAB);
            lab.aspect = numberBehind(WORD_ASPECT, 1, 9);
            lab.hold = numberBehind(WORD_HOLD, 1, 9);
            expect(';');
            lab.lines = 1;
            for (int i = 0; i < TEXT_MOST && faultKind == 0 && kind() != TEXT_END; i++) {
                readLine(lab);
                expect(';');
                lab.lines++;
            }
            return faultKind == 0 ? lab : null;
        }

        private void readLine(Lab lab) {
            switch (kind()) {
                case WORD + LANE:
                    readLane(lab);
                    break;
                case WORD_PATTERN:
                    readPattern(lab);
                    break;
                case WORD_PASSES:
                    lab.passesLaw = readLaw(PASSES_SPEAKS_OF);
                    break;
                case WORD_EDGE:
                    lab.edgeLaw = readLaw(EDGE_SPEAKS_OF);
                    break;
                case WORD_DRIFTS:
                    lab.driftsLaw = readLaw(DRIFTS_SPEAKS_OF);
                    break;
                default:
                    fail(2);
                    break;
            }
        }

        private void readLane(Lab lab) {
            int l = lab.lanes;
            if (l >= LANES_MOST) {
                fail(4);
                return;
            }
            next++;
            lab.ats[l] = numberBehind(WORD_AT, 0, DELAYS - 1);
            lab.mids[l] = numberBehind(WORD + LEVEL, 0, LEVELS - 1);
            lab.wides[l] = numberBehind(WORD_WIDE, 1, DELAYS);
            lab.highs[l] = numberBehind(WORD_HIGH, 1, LEVELS);
            lab.lanes++;
        }

        private void readPattern(Lab lab) {
            if (lab.patterns >= PATTERNS_MOST) {
                fail(4);
                return;
            }
            lab.patterns++;
            lab.stresses[lab.patterns] = numberBehind(WORD_PATTERN, 0, 9);
        }

        private Law readLaw(int wordsOfIt) {
            next++;
            expect(':');
            speaksOf = wordsOfIt;
            used = 0;
            coded = 0;
            if (wordsOfIt == DRIFTS_SPEAKS_OF) {
                readSum(0);
            } else {
                readTruth(0);
            }
            return new Law(Arrays.copyOf(code, coded), used);
        }

        private void readTruth(int nested) {
            readBoth(nested);
            for (int i = 0; i < TEXT_MOST && kind() == WORD_OR; i++) {
                next++;
                int jump = put(OP_OR, 0);
                readBoth(nested);
                land(jump);
            }
        }

        private void readBoth(int nested) {
            readUnit(nested);
            for (int i = 0; i < TEXT_MOST && kind() == WORD_AND; i++) {
                next++;
                int jump = put(OP_AND, 0);
                readUnit(nested);
                land(jump);
            }
        }

        private void readUnit(int nested) {
            if (kind() == WORD_NOT) {
                if (goDeeper(nested)) {
                    readUnit(nested + 1);
                    put(OP_NOT, 0);
                }
            } else if (kind() == '[') {
                if (goDeeper(nested)) {
                    readTruth(nested + 1);
                    expect(']');
                }
            } else {
                readSum(nested);
                int sign = kind();
                if (sign == '=' || sign == '<' || sign == '>') {
                    next++;
                    readSum(nested);
                    put(sign == '=' ? OP_EQUAL : sign == '<' ? OP_LESS : OP_GREATER, 0);
                } else {
                    fail(2);
                }
            }
        }

        private void readSum(int nested) {
            readTerm(nested);
            for (int i = 0; i < TEXT_MOST && (kind() == '+' || kind() == '-'); i++) {
                int op = kind() == '+' ? OP_ADD : OP_SUBTRACT;
                next++;
                readTerm(nested);
                put(op, 0);
            }
        }

        private void readTerm(int nested) {
            readAtom(nested);
            for (int i = 0; i < TEXT_MOST && kind() == '*'; i++) {
                next++;
                readAtom(nested);
                put(OP_TIMES, 0);
            }
        }

        private void readAtom(int nested) {
            int kind = kind();
            if (kind == NUMBER) {
                put(OP_NUMBER, tokens.values[next]);
                next++;
            } else if (kind == '(') {
                if (goDeeper(nested)) {
                    readSum(nested + 1);
                    expect(')');
                }
            } else if (kind == WORD_IF) {
                if (goDeeper(nested)) {
                    readChoice(nested + 1);
                }
            } else if (kind >= WORD && kind <= WORD + TIME && (speaksOf >> kind - WORD & 1) != 0) {
                put(OP_VALUE, kind - WORD);
                used |= 1 << kind - WORD;
                next++;
            } else {
                fail(2);
            }
        }

        private void readChoice(int nested) {
            readTruth(nested);
            expect(WORD_THEN);
            int toElse = put(OP_UNLESS, 0);
            readSum(nested);
            expect(WORD_ELSE);
            int toEnd = put(OP_JUMP, 0);
            land(toElse);
            readSum(nested);
            expect(WORD_END);
            land(toEnd);
        }

        /** Takes one of not [ ( if, unless it is the seventh within one another. */
        private boolean goDeeper(int nested) {
            if (nested >= NESTED_MOST) {
                fail(4);
                return false;
            }
            next++;
            return true;
        }

        private int numberBehind(int word, int least, int greatest) {
            expect(word);
            if (kind() != NUMBER) {
                fail(2);
                return least;
            }
            int value = tokens.values[next];
            if (value < least || value > greatest) {
                fail(3);
                return least;
            }
            next++;
            return value;
        }

        private void expect(int kind) {
            if (kind() == kind) {
                next++;
            } else {
                fail(2);
            }
        }

        /** The kind of the TOKEN to be read; none is behind a FAULT. */
        private int kind() {
            return faultKind != 0 || next >= tokens.kinds.length ? STOPPED : tokens.kinds[next];
        }

        /** Only the first FAULT is told. */
        private void fail(int kind) {
            if (faultKind == 0) {
                faultKind = kind() == NO_TOKEN ? 1 : kind;
                faultPlace = next < tokens.places.length ? tokens.places[next] : NONE;
            }
        }

        private int put(int op, int operand) {
            if (coded < code.length) {
                code[coded] = op | operand << OP_BITS;
                coded++;
            }
            return coded - 1;
        }

        /** A jump goes to what is put next. */
        private void land(int jump) {
            if (jump >= 0) {
                code[jump] = code[jump] & OP_MASK | coded << OP_BITS;
            }
        }
    }
}
