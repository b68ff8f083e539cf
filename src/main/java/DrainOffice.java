/**
 * An office of land drains. What each call promises stands in ../shared/DOC.md.
 *
 * All rows are made once, in the constructor, and used again: no call makes an object.
 */
public final class DrainOffice {
    public static final int NUMBER = -1;
    public static final int FULL = -2;
    public static final int KIND = -3;
    public static final int HIGH = -4;
    public static final int RING = -5;
    public static final int NONE = -6;
    public static final int COVER = -100;

    private static final int MOST_ROWS = 6;
    private static final int MOST_COLUMNS = 6;
    private static final int MOST_PLACES = MOST_ROWS * MOST_COLUMNS;
    private static final int MOST_PIPES = 20;
    private static final int SOIL_COUNT = 4;
    private static final int DITCH_COUNT = 4;

    private static final int MOST_HEIGHT = 2000;
    private static final int NEW_HEIGHT = 1000;
    private static final int MOST_TAKES = 200;
    private static final int MOST_GIVES = 100;
    private static final int MOST_KEEPS = 1000;
    private static final int MOST_REACHES = 40;
    private static final int MOST_FALL = 50;
    private static final int MOST_WIDTH = 4;
    private static final int MOST_LIFE = 100;
    private static final int LEAST_COVER = 60;
    private static final int MOST_RAIN = 300;
    private static final int MOST_HOURS = 50;
    private static final int MOST_TRIED_HOURS = 20;

    private static final int LATERAL = 0;
    private static final int MAIN = 1;
    private static final int MOLE = 2;
    private static final int OUTFALL = 3;

    /** What a pipe leads into: a pipe's number, this and a ditch's number, or NOTHING. */
    private static final int FIRST_DITCH = 100;
    private static final int NOTHING = -1;

    private static final int ALL_PLACES = -1;
    private static final int NO_SUCH_STEP = -10000;
    private static final int NO_PIPE = 9999;

    private final Sheet now = new Sheet();
    private final Sheet kept = new Sheet();
    private boolean isKept;
    private final Water tried = new Water();
    private final Flow flow = new Flow();
    private final Trenches trenches = new Trenches();

    public DrainOffice() {
        isKept = false;
    }

    // ---- ground

    public int land(int rows, int columns) {
        if (!isWithin(rows, 1, MOST_ROWS) || !isWithin(columns, 1, MOST_COLUMNS)) {
            return NUMBER;
        }
        now.ground.renew(rows, columns);
        now.hand.clear();
        now.net.count = 0;
        now.water.clear();
        fill(now.rain, 0);
        now.marked.clear();
        now.sight.clear();
        return now.ground.places;
    }

    public int height(int place, int height) {
        if (!now.ground.hasPlace(place) || !isWithin(height, 0, MOST_HEIGHT)) {
            return NUMBER;
        }
        now.ground.heights[place] = height;
        return 1;
    }

    public int soil(int place, int soil) {
        if (!now.ground.hasPlace(place) || !isSoil(soil)) {
            return NUMBER;
        }
        now.ground.soilOf[place] = soil;
        return 1;
    }

    public int soils(int soil, int takes, int gives, int keeps, int reaches) {
        if (!isSoil(soil)
                || !isWithin(takes, 0, MOST_TAKES) || !isWithin(gives, 0, MOST_GIVES)
                || !isWithin(keeps, 0, MOST_KEEPS) || !isWithin(reaches, 0, MOST_REACHES)) {
            return NUMBER;
        }
        now.ground.takes[soil] = takes;
        now.ground.gives[soil] = gives;
        now.ground.keeps[soil] = keeps;
        now.ground.reaches[soil] = reaches;
        return 1;
    }

    public int ditch(int ditch, int level) {
        if (!isDitch(ditch) || !isWithin(level, 0, MOST_HEIGHT)) {
            return NUMBER;
        }
        now.ground.ditchLevels[ditch] = level;
        return 1;
    }

    // ---- pipes

    public int trench(int a, int b, int level, int fall) {
        Ground ground = now.ground;
        if (!ground.hasPlace(a) || !ground.hasPlace(b) || a == b || !ground.areInLine(a, b)
                || !isWithin(level, 0, MOST_HEIGHT) || !isWithin(fall, 1, MOST_FALL)) {
            return NUMBER;
        }
        // One of the two is 0, as the places are in line.
        int steps = 1 + ground.rowsApart(a, b) + ground.columnsApart(a, b);
        int stride = ground.rowsApart(a, b) == 0 ? 1 : ground.columns;
        now.hand.set(a, a < b ? stride : -stride, steps, level, fall);
        return steps;
    }

    public int pipe(int kind, int width, int life) {
        if (!isWithin(kind, LATERAL, OUTFALL) || !isWithin(width, 1, MOST_WIDTH)
                || (kind == MOLE && !isWithin(life, 1, MOST_LIFE))) {
            return NUMBER;
        }
        if (now.hand.steps == 0) {
            return NONE;
        }
        int bare = now.ground.firstBareStep(now.hand);
        if (bare >= 0) {
            return COVER - bare;
        }
        if (now.net.count >= MOST_PIPES) {
            return FULL;
        }
        int p = now.net.count;
        now.net.pipes[p].lay(now.hand, kind, width);
        now.water.life[p] = kind == MOLE ? life : 0;
        now.net.count = p + 1;
        return p;
    }

    public int join(int p, int q) {
        if (!now.net.hasPipe(p) || !now.net.hasPipe(q)) {
            return NUMBER;
        }
        Pipe from = now.net.pipes[p];
        Pipe to = now.net.pipes[q];
        int last = from.line.steps - 1;
        int meets = to.line.stepOn(from.line.placeAt(last));
        if (from.kind == OUTFALL || !to.isMain() || meets < 0) {
            return KIND;
        }
        if (from.line.levelAt(last) < to.line.levelAt(meets)) {
            return HIGH;
        }
        if (now.net.leadsTo(q, p)) {
            return RING;
        }
        from.into = q;
        return now.net.rankOf(p);
    }

    public int open(int p, int ditch) {
        if (!now.net.hasPipe(p) || !isDitch(ditch)) {
            return NUMBER;
        }
        if (now.net.pipes[p].kind != OUTFALL) {
            return KIND;
        }
        now.net.pipes[p].into = FIRST_DITCH + ditch;
        return 1;
    }

    public int part(int p) {
        if (!now.net.hasPipe(p)) {
            return NUMBER;
        }
        if (now.net.pipes[p].into == NOTHING) {
            return 0;
        }
        now.net.pipes[p].into = NOTHING;
        return 1;
    }

    public int block(int p, boolean is) {
        return now.net.hasPipe(p) ? now.water.blocked.put(p, is) : NUMBER;
    }

    public int of(int p, int what) {
        if (!now.net.hasPipe(p)) {
            return NUMBER;
        }
        Pipe pipe = now.net.pipes[p];
        switch (what) {
            case 0: return pipe.kind;
            case 1: return pipe.line.steps;
            case 2: return pipe.width;
            case 3: return pipe.bears;
            case 4: return pipe.holds;
            case 5: return now.net.rankOf(p);
            case 6: return pipe.into;
            case 7: return now.water.blocked.has(p) ? 1 : 0;
            case 8: return now.water.inside[p];
            case 9: return now.water.life[p];
            case 10: return now.net.peakOf(p);
            case 11: return now.water.passed[p];
            default: return NUMBER;
        }
    }

    public int step(int p, int k, int what) {
        if (!now.net.hasPipe(p) || !isWithin(k, 0, now.net.pipes[p].line.steps - 1)) {
            return NO_SUCH_STEP;
        }
        Line line = now.net.pipes[p].line;
        switch (what) {
            case 0: return line.placeAt(k);
            case 1: return line.levelAt(k);
            case 2: return now.ground.coverAt(line, k);
            default: return NO_SUCH_STEP;
        }
    }

    // ---- water

    public int rain(int place, int rain) {
        if ((place != ALL_PLACES && !now.ground.hasPlace(place)) || !isWithin(rain, 0, MOST_RAIN)) {
            return NUMBER;
        }
        if (place == ALL_PLACES) {
            fill(now.rain, rain);
        } else {
            now.rain[place] = rain;
        }
        return 1;
    }

    public int hours(int n) {
        if (!isWithin(n, 1, MOST_HOURS)) {
            return NUMBER;
        }
        int goneBefore = sum(now.water.gone);
        flow.plan(now.net);
        for (int hour = 0; hour < n; hour++) {
            flow.passHour(now, now.water);
        }
        return sum(now.water.gone) - goneBefore;
    }

    public int at(int place, int what) {
        if (!now.ground.hasPlace(place)) {
            return NUMBER;
        }
        switch (what) {
            case 0: return now.ground.heights[place];
            case 1: return now.ground.soilOf[place];
            case 2: return now.water.stands[place];
            case 3: return now.water.wet[place];
            case 4: return now.rain[place];
            case 5: return now.isReached(place) ? 1 : 0;
            default: return NUMBER;
        }
    }

    public int all(int what) {
        switch (what) {
            case 0: return sum(now.water.stands);
            case 1: return sum(now.water.wet);
            case 2: return sum(now.water.inside);
            case 3:
            case 4:
            case 5:
            case 6: return now.water.gone[what - 3];
            case 7: return now.water.fell;
            default: return NUMBER;
        }
    }

    public int many(int what) {
        switch (what) {
            case 0: return now.ground.places;
            case 1: return now.net.count;
            case 2: return now.water.hours;
            case 3: return now.countUnreached();
            case 4: return now.marked.size();
            case 5: return now.sight.size();
            case 6: return now.water.blocked.size();
            default: return NUMBER;
        }
    }

    public int dry(int i) {
        int left = i;
        for (int place = 0; place < now.ground.places; place++) {
            if (!now.isReached(place)) {
                if (left == 0) {
                    return place;
                }
                left--;
            }
        }
        return NONE;
    }

    // ---- the least tree

    public int mark(int place, boolean is) {
        return now.ground.hasPlace(place) ? now.marked.put(place, is) : NUMBER;
    }

    public int tree() {
        trenches.grow(now.ground, now.marked);
        return trenches.cost;
    }

    public int pair(int i) {
        trenches.grow(now.ground, now.marked);
        return isWithin(i, 0, trenches.count - 1) ? trenches.taken[i] : NONE;
    }

    // ---- what is blocked

    public int sight(int place, boolean is) {
        return now.ground.hasPlace(place) ? now.sight.put(place, is) : NUMBER;
    }

    public int see() {
        now.water.putStanding(now.sight);
        return now.sight.size();
    }

    public int where(int h, int k) {
        if (!isWithin(h, 1, MOST_TRIED_HOURS) || k < 0) {
            return NUMBER;
        }
        flow.plan(now.net);
        int left = k;
        if (fits(h, NOTHING, NOTHING)) {
            if (left == 0) {
                return NO_PIPE;
            }
            left--;
        }
        for (int p = 0; p < now.net.count; p++) {
            if (fits(h, p, NOTHING)) {
                if (left == 0) {
                    return p;
                }
                left--;
            }
        }
        return pairWhere(h, left);
    }

    private int pairWhere(int h, int k) {
        int left = k;
        for (int p = 0; p < now.net.count; p++) {
            for (int q = p + 1; q < now.net.count; q++) {
                if (fits(h, p, q)) {
                    if (left == 0) {
                        return 100 * (p + 1) + q;
                    }
                    left--;
                }
            }
        }
        return NONE;
    }

    /** Tries p and q blocked (NOTHING: none) for h hours; the flow must be planned already. */
    private boolean fits(int h, int p, int q) {
        tried.copyFrom(now.water);
        if (!blockTried(p) || !blockTried(q)) {
            return false;
        }
        for (int hour = 0; hour < h; hour++) {
            flow.passHour(now, tried);
        }
        return tried.isStandingJustOn(now.sight);
    }

    /** Whether p may be tried: a pipe that is blocked already may not. */
    private boolean blockTried(int p) {
        return p == NOTHING || tried.blocked.put(p, true) == 1;
    }

    // ---- kept

    public int keep() {
        kept.copyFrom(now);
        isKept = true;
        return 1;
    }

    public int back() {
        if (!isKept) {
            return NONE;
        }
        now.copyFrom(kept);
        return 1;
    }

    private static boolean isWithin(int number, int least, int most) {
        return number >= least && number <= most;
    }

    private static boolean isSoil(int soil) {
        return soil >= 0 && soil < SOIL_COUNT;
    }

    private static boolean isDitch(int ditch) {
        return ditch >= 0 && ditch < DITCH_COUNT;
    }

    /**
     * The number at an index that comes out of the state itself: 0 where the row has none such. The
     * calls let no such index come, but no index is used that wasn't looked at.
     */
    private static int numberAt(int[] row, int i) {
        return i >= 0 && i < row.length ? row[i] : 0;
    }

    private static int sum(int[] row) {
        int total = 0;
        for (int i = 0; i < row.length; i++) {
            total += row[i];
        }
        return total;
    }

    private static void fill(int[] row, int number) {
        for (int i = 0; i < row.length; i++) {
            row[i] = number;
        }
    }

    /** Both rows are made with one length and never made anew. */
    private static void copy(int[] from, int[] to) {
        int length = Math.min(from.length, to.length);
        for (int i = 0; i < length; i++) {
            to[i] = from[i];
        }
    }

    /** Some places, or some pipes, by their numbers (below 64). */
    private static final class Group {
        long bits;

        boolean has(int member) {
            return (bits >>> member & 1L) != 0L;
        }

        /** 1 if that changes something, else 0. */
        int put(int member, boolean is) {
            if (has(member) == is) {
                return 0;
            }
            bits = bits ^ (1L << member);
            return 1;
        }

        int size() {
            return Long.bitCount(bits);
        }

        void clear() {
            bits = 0L;
        }

        void copyFrom(Group other) {
            bits = other.bits;
        }
    }

    /** The course of a pipe or of a trench; one of no steps is none. */
    private static final class Line {
        int first;
        int stride;
        int steps;
        int level;
        int fall;

        void set(int newFirst, int newStride, int newSteps, int newLevel, int newFall) {
            first = newFirst;
            stride = newStride;
            steps = newSteps;
            level = newLevel;
            fall = newFall;
        }

        void clear() {
            set(0, 0, 0, 0, 0);
        }

        void copyFrom(Line other) {
            set(other.first, other.stride, other.steps, other.level, other.fall);
        }

        int placeAt(int k) {
            return first + k * stride;
        }

        int levelAt(int k) {
            return level - k * fall;
        }

        /** The step that is on a place, or -1. */
        int stepOn(int place) {
            for (int k = 0; k < steps; k++) {
                if (placeAt(k) == place) {
                    return k;
                }
            }
            return -1;
        }
    }

    /** A pipe as it was laid, and what it leads into; its water is told in Water. */
    private static final class Pipe {
        final Line line = new Line();
        int kind;
        int width;
        int bears;
        int holds;
        int into;

        void lay(Line trench, int newKind, int newWidth) {
            line.copyFrom(trench);
            kind = newKind;
            width = newWidth;
            bears = width * width * (line.fall + 5);
            holds = 40 * width * line.steps;
            into = NOTHING;
        }

        void copyFrom(Pipe other) {
            line.copyFrom(other.line);
            kind = other.kind;
            width = other.width;
            bears = other.bears;
            holds = other.holds;
            into = other.into;
        }

        boolean isLateral() {
            return kind == LATERAL || kind == MOLE;
        }

        boolean isMain() {
            return kind == MAIN || kind == OUTFALL;
        }
    }

    /** All pipes; those from count on are not laid yet. */
    private static final class Net {
        final Pipe[] pipes = new Pipe[MOST_PIPES];
        int count;

        Net() {
            for (int p = 0; p < MOST_PIPES; p++) {
                pipes[p] = new Pipe();
            }
        }

        boolean hasPipe(int p) {
            return p >= 0 && p < count;
        }

        void copyFrom(Net other) {
            for (int p = 0; p < other.count; p++) {
                pipes[p].copyFrom(other.pipes[p]);
            }
            count = other.count;
        }

        /** No way is longer than there are pipes, as join() lets no ring come. */
        int rankOf(int p) {
            int rank = -1;
            for (int next = p; hasPipe(next) && rank < MOST_PIPES; next = pipes[next].into) {
                rank++;
            }
            return rank;
        }

        /** Whether q is p, or leads, through others or not, into p. */
        boolean leadsTo(int q, int p) {
            int next = q;
            for (int far = 0; far < MOST_PIPES && hasPipe(next) && next != p; far++) {
                next = pipes[next].into;
            }
            return next == p;
        }

        int peakOf(int p) {
            int total = 0;
            for (int other = 0; other < count; other++) {
                if (pipes[other].into == p) {
                    total += pipes[other].bears;
                }
            }
            return Math.min(total, pipes[p].bears);
        }
    }

    /** The land, its soils, and the ditches. */
    private static final class Ground {
        int columns;
        int places;
        final int[] heights = new int[MOST_PLACES];
        final int[] soilOf = new int[MOST_PLACES];
        final int[] takes = new int[SOIL_COUNT];
        final int[] gives = new int[SOIL_COUNT];
        final int[] keeps = new int[SOIL_COUNT];
        final int[] reaches = new int[SOIL_COUNT];
        final int[] ditchLevels = new int[DITCH_COUNT];

        Ground() {
            columns = 1;
            places = 1;
        }

        void renew(int rows, int newColumns) {
            columns = newColumns;
            places = rows * newColumns;
            fill(heights, NEW_HEIGHT);
            fill(soilOf, 0);
        }

        void copyFrom(Ground other) {
            columns = other.columns;
            places = other.places;
            copy(other.heights, heights);
            copy(other.soilOf, soilOf);
            copy(other.takes, takes);
            copy(other.gives, gives);
            copy(other.keeps, keeps);
            copy(other.reaches, reaches);
            copy(other.ditchLevels, ditchLevels);
        }

        boolean hasPlace(int place) {
            return place >= 0 && place < places;
        }

        int rowOf(int place) {
            return columns > 0 ? place / columns : 0;
        }

        int rowsApart(int a, int b) {
            return Math.abs(rowOf(a) - rowOf(b));
        }

        int columnsApart(int a, int b) {
            return Math.abs((a - rowOf(a) * columns) - (b - rowOf(b) * columns));
        }

        boolean areInLine(int a, int b) {
            return rowsApart(a, b) == 0 || columnsApart(a, b) == 0;
        }

        int coverAt(Line line, int k) {
            return numberAt(heights, line.placeAt(k)) - line.levelAt(k);
        }

        /** The first step without cover, or -1. */
        int firstBareStep(Line line) {
            for (int k = 0; k < line.steps; k++) {
                if (coverAt(line, k) < LEAST_COVER || line.levelAt(k) < 0) {
                    return k;
                }
            }
            return -1;
        }

        boolean isReachedBy(int place, Line line) {
            int reach = numberAt(reaches, soilOf[place]);
            for (int k = 0; k < line.steps; k++) {
                int rowsOff = rowsApart(place, line.placeAt(k));
                int columnsOff = columnsApart(place, line.placeAt(k));
                if (rowsOff * rowsOff + columnsOff * columnsOff <= reach) {
                    return true;
                }
            }
            return false;
        }

        int costBetween(int a, int b) {
            return 10 * (rowsApart(a, b) + columnsApart(a, b)) + Math.abs(heights[a] - heights[b]);
        }
    }

    /**
     * All that an hour can change, and which pipes are blocked: what is copied to try something.
     * What is told of pipes that are not laid yet is 0 throughout, so a new pipe starts empty.
     */
    private static final class Water {
        final int[] stands = new int[MOST_PLACES];
        final int[] wet = new int[MOST_PLACES];
        final int[] inside = new int[MOST_PIPES];
        final int[] life = new int[MOST_PIPES];
        final int[] passed = new int[MOST_PIPES];
        final int[] gone = new int[DITCH_COUNT];
        final Group blocked = new Group();
        int fell;
        int hours;

        void clear() {
            fill(stands, 0);
            fill(wet, 0);
            fill(inside, 0);
            fill(life, 0);
            fill(passed, 0);
            fill(gone, 0);
            blocked.clear();
            fell = 0;
            hours = 0;
        }

        void copyFrom(Water other) {
            copy(other.stands, stands);
            copy(other.wet, wet);
            copy(other.inside, inside);
            copy(other.life, life);
            copy(other.passed, passed);
            copy(other.gone, gone);
            blocked.copyFrom(other.blocked);
            fell = other.fell;
            hours = other.hours;
        }

        void putStanding(Group group) {
            for (int place = 0; place < MOST_PLACES; place++) {
                group.put(place, stands[place] > 0);
            }
        }

        boolean isStandingJustOn(Group group) {
            for (int place = 0; place < MOST_PLACES; place++) {
                if (group.has(place) != (stands[place] > 0)) {
                    return false;
                }
            }
            return true;
        }
    }

    /** All that is kept. */
    private static final class Sheet {
        final Ground ground = new Ground();
        final Line hand = new Line();
        final Net net = new Net();
        final Water water = new Water();
        final int[] rain = new int[MOST_PLACES];
        final Group marked = new Group();
        final Group sight = new Group();

        void copyFrom(Sheet other) {
            ground.copyFrom(other.ground);
            hand.copyFrom(other.hand);
            net.copyFrom(other.net);
            water.copyFrom(other.water);
            copy(other.rain, rain);
            marked.copyFrom(other.marked);
            sight.copyFrom(other.sight);
        }

        boolean isReached(int place) {
            for (int p = 0; p < net.count; p++) {
                if (net.pipes[p].isLateral() && ground.isReachedBy(place, net.pipes[p].line)) {
                    return true;
                }
            }
            return false;
        }

        int countUnreached() {
            int count = 0;
            for (int place = 0; place < ground.places; place++) {
                if (!isReached(place)) {
                    count++;
                }
            }
            return count;
        }
    }

    /** What an hour does. The plan (who drains where, who passes on when) serves many hours. */
    private static final class Flow {
        final int[] ranks = new int[MOST_PIPES];
        int mostRank;
        final int[] drainCount = new int[MOST_PLACES];
        final int[] drains = new int[MOST_PLACES * MOST_PIPES];

        void plan(Net net) {
            for (int place = 0; place < MOST_PLACES; place++) {
                drainCount[place] = planDrains(net, place);
            }
            mostRank = 0;
            for (int p = 0; p < net.count; p++) {
                ranks[p] = net.rankOf(p);
                mostRank = Math.max(mostRank, ranks[p]);
            }
        }

        /** How many laterals have the place as a step. */
        private int planDrains(Net net, int place) {
            int count = 0;
            for (int p = 0; p < net.count; p++) {
                if (net.pipes[p].isLateral() && net.pipes[p].line.stepOn(place) >= 0) {
                    drains[place * MOST_PIPES + count] = p;
                    count++;
                }
            }
            return count;
        }

        void passHour(Sheet sheet, Water water) {
            // Rain and soil of one place touch no other, so each place may drain at once behind them.
            for (int place = 0; place < sheet.ground.places; place++) {
                wetPlace(sheet, water, place);
                drainPlace(sheet, water, place);
            }
            for (int rank = 0; rank <= mostRank; rank++) {
                for (int p = 0; p < sheet.net.count; p++) {
                    if (ranks[p] == rank) {
                        passOn(sheet, water, p);
                    }
                }
            }
            for (int p = 0; p < sheet.net.count; p++) {
                water.life[p] = Math.max(0, water.life[p] - 1);
            }
            water.hours++;
        }

        private void wetPlace(Sheet sheet, Water water, int place) {
            int soil = sheet.ground.soilOf[place];
            water.fell += sheet.rain[place];
            water.stands[place] += sheet.rain[place];
            // More wet than it keeps: a soil can come to that by soil() or soils() alone.
            int room = Math.max(0, numberAt(sheet.ground.keeps, soil) - water.wet[place]);
            int most = Math.min(room, numberAt(sheet.ground.takes, soil));
            int taken = Math.min(most, water.stands[place]);
            water.stands[place] -= taken;
            water.wet[place] += taken;
        }

        private void drainPlace(Sheet sheet, Water water, int place) {
            int gives = numberAt(sheet.ground.gives, sheet.ground.soilOf[place]);
            for (int i = 0; i < drainCount[place]; i++) {
                int p = numberAt(drains, place * MOST_PIPES + i);
                if (isDraining(sheet.net, water, p)) {
                    int room = sheet.net.pipes[p].holds - water.inside[p];
                    int given = Math.min(room, water.wet[place] * gives / 100);
                    water.wet[place] -= given;
                    water.inside[p] += given;
                }
            }
        }

        private boolean isDraining(Net net, Water water, int p) {
            return net.hasPipe(p) && !water.blocked.has(p)
                    && (net.pipes[p].kind != MOLE || water.life[p] > 0);
        }

        private void passOn(Sheet sheet, Water water, int p) {
            Pipe pipe = sheet.net.pipes[p];
            int most = water.blocked.has(p) ? 0 : mostInto(sheet, water, pipe);
            int passed = Math.min(most, Math.min(pipe.bears, water.inside[p]));
            water.passed[p] = passed;
            water.inside[p] -= passed;
            int ditch = pipe.into - FIRST_DITCH;
            if (sheet.net.hasPipe(pipe.into)) {
                water.inside[pipe.into] += passed;
            } else if (isDitch(ditch)) {
                water.gone[ditch] += passed;
            }
        }

        /** How much that into which the pipe leads would take. */
        private int mostInto(Sheet sheet, Water water, Pipe pipe) {
            int ditch = pipe.into - FIRST_DITCH;
            if (sheet.net.hasPipe(pipe.into)) {
                return sheet.net.pipes[pipe.into].holds - water.inside[pipe.into];
            }
            if (!isDitch(ditch)) {
                return 0;
            }
            int lastLevel = pipe.line.levelAt(pipe.line.steps - 1);
            boolean isShut = sheet.ground.ditchLevels[ditch] > lastLevel;
            return isShut ? 0 : pipe.bears;
        }
    }

    /** The least tree of trenches between the marked places. */
    private static final class Trenches {
        final int[] piece = new int[MOST_PLACES];
        final int[] taken = new int[MOST_PLACES];
        int count;
        int cost;
        private int leastCost;
        private int leastPair;
        private int pieceOfLesser;
        private int pieceOfGreater;

        void grow(Ground ground, Group marked) {
            for (int place = 0; place < MOST_PLACES; place++) {
                piece[place] = place;
            }
            count = 0;
            cost = 0;
            while (count < MOST_PLACES && findLeast(ground, marked)) {
                taken[count] = leastPair;
                count++;
                cost += leastCost;
                joinPieces();
            }
        }

        /**
         * Whether some pair joins two pieces, and the least that does: pairs that were passed over
         * never do so later.
         */
        private boolean findLeast(Ground ground, Group marked) {
            leastCost = Integer.MAX_VALUE;
            for (int a = 0; a < ground.places; a++) {
                for (int b = a + 1; b < ground.places; b++) {
                    if (marked.has(a) && marked.has(b) && piece[a] != piece[b]) {
                        offer(a, b, ground.costBetween(a, b));
                    }
                }
            }
            return leastCost < Integer.MAX_VALUE;
        }

        private void offer(int a, int b, int itsCost) {
            if (itsCost < leastCost) {
                leastCost = itsCost;
                leastPair = 100 * a + b;
                pieceOfLesser = piece[a];
                pieceOfGreater = piece[b];
            }
        }

        private void joinPieces() {
            for (int place = 0; place < MOST_PLACES; place++) {
                if (piece[place] == pieceOfGreater) {
                    piece[place] = pieceOfLesser;
                }
            }
        }
    }
}
