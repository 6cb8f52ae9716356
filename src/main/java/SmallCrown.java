/**
 * A crown that is a size too small, worn from the cathedral (cell 0) to the
 * fountain (the last cell) against cobbles and wind. The promises that this
 * class keeps stand, by number, in the project's document.
 */
public final class SmallCrown {
    public static final int NONE = -1, BAD = -2, NO = -3, FULL = -4;

    // Numbers of their own, told for single calls: in most of these a lean, a
    // cobble or a wind may itself be -2 or -3.
    private static final int BAD_NUMBER = -10;
    private static final int BAD_LEAN = -100;
    private static final int NO_HAND = -99;
    private static final int NOT_SO_MANY = -5;
    private static final int FAULT_BASE = -10;

    private static final int MOST_LENGTH = 15;
    private static final int MOST_CELLS = MOST_LENGTH + 1;
    private static final int FIRST_LENGTH = 8;
    private static final int MOST_HOLD = 12;
    private static final int FIRST_HOLD = 5;
    private static final int MOST_COBBLE = 4;
    private static final int WINDS = 6;
    private static final int MOST_WIND = 3;
    private static final int KINDS = 6;
    private static final int MOST_HEADS = 5;
    private static final int MOST_SET = 12;
    private static final int MOST_PACE = 3;
    private static final int MOST_NOTES = 6;
    private static final int MOST_UNDOS = 8;
    private static final int MOST_BYTES = 150;
    private static final int MOST_BYTE = 127;
    private static final int IMAGES = 2;
    private static final int MOST_BOW = 3;
    private static final int MOST_FLAT = 3;
    private static final int TENTHS = 10;
    private static final int MOST_SEED = 999999;
    private static final int MOST_CORONATIONS = 60;
    private static final int COUNTS = 6;
    private static final int VIEWS = 5;

    private static final int[] TENS = {
        1, 10, 100, 1000, 10000, 100000, 1000000, 10000000, 100000000
    };

    private final Plain[] kinds = new Plain[KINDS];
    private final World world = new World();
    private final World draft = new World();
    private final World[] images = new World[IMAGES];
    private final Reader reader = new Reader();
    private final Walk trial = new Walk();
    private final Ways ways = new Ways();
    private final int[] ends = new int[MOST_CELLS];
    private long above = 0;
    private long below = 1;
    private int refusedBad = 0;
    private int refusedNo = 0;
    private int refusedFull = 0;

    public SmallCrown() {
        kinds[0] = new Plain();
        kinds[1] = new Stiff();
        kinds[2] = new ShortStep();
        kinds[3] = new Bowed();
        kinds[4] = new Nodder();
        kinds[5] = new Bred();
    }

    // ---- a road

    public int road(int length, int hold) {
        if (!within(length, 1, MOST_LENGTH) || !within(hold, 1, MOST_HOLD)) {
            return bad(BAD);
        }
        int were = world.heads;
        world.beginAnew(length, hold);
        return were;
    }

    public int cobble(int c, int n) {
        if (!isCell(c) || !within(n, -MOST_COBBLE, MOST_COBBLE)) {
            return bad(BAD_NUMBER);
        }
        int was = world.road.cobbleOf(c);
        world.road.layCobble(c, n);
        return was;
    }

    public int wind(int i, int n) {
        if (!within(i, 0, WINDS - 1) || !within(n, -MOST_WIND, MOST_WIND)) {
            return bad(BAD_NUMBER);
        }
        int was = world.road.windIn(i);
        world.road.setWind(i, n);
        return was;
    }

    public int head(int kind, int set) {
        if (!within(kind, 0, KINDS - 1) || !within(set, -MOST_SET, MOST_SET)) {
            return bad(BAD);
        }
        if (world.heads >= MOST_HEADS) {
            return full();
        }
        world.addHead(kind, set);
        return world.heads - 1;
    }

    public int type(int c) {
        if (!within(c, 0, MOST_BYTE)) {
            return bad(BAD);
        }
        if (reader.length >= MOST_BYTES) {
            return full();
        }
        reader.add(c);
        return reader.length;
    }

    public int clear() {
        int had = reader.length;
        reader.length = 0;
        return had;
    }

    public int read() {
        int items = reader.tell(draft);
        if (items == NONE) {
            return FAULT_BASE - reader.start;
        }
        world.copyFrom(draft);
        return items;
    }

    // ---- a walk

    public int walk(int head) {
        if (!isHead(head)) {
            return bad(BAD);
        }
        world.walk.begin(head, 0, world.setOf(head));
        return bit(world.walk.isFallen(world.road));
    }

    public int step(int pace) {
        if (!within(pace, 1, MOST_PACE)) {
            return bad(BAD_NUMBER);
        }
        Walk walk = world.walk;
        if (walk.head == NONE || walk.isOver(world.road)) {
            return no(NO);
        }
        walk.keep();
        walk.go(world.road, kind(world.kindOf(walk.head)), pace, 0);
        return walk.cell;
    }

    public int hand() {
        Walk walk = world.walk;
        if (walk.head == NONE || walk.isThrough(world.road)) {
            return no(NO_HAND);
        }
        walk.keep();
        int had = walk.lean;
        walk.lean = 0;
        return had;
    }

    public int undo() {
        if (world.walk.kept <= 0) {
            return no(NO);
        }
        world.walk.takeBack();
        return world.walk.cell;
    }

    public int of(int head, int what) {
        if (!isHead(head) || !within(what, 0, 1)) {
            return bad(BAD_LEAN);
        }
        return what == 0 ? world.kindOf(head) : world.setOf(head);
    }

    public int now(int what) {
        if (!within(what, 0, VIEWS - 1)) {
            return bad(BAD_LEAN);
        }
        Walk walk = world.walk;
        switch (what) {
            case 0: return walk.head;
            case 1: return walk.cell;
            case 2: return walk.step;
            case 3: return walk.lean;
            default: return bit(walk.isFallen(world.road));
        }
    }

    // ---- paces

    public int paces(int head, int t, int row, int what) {
        if (!isHead(head) || !isStep(t) || !isRow(row) || !within(what, 0, 3)) {
            return bad(BAD_LEAN);
        }
        tryRow(world.kindOf(head), head, t, row, NONE, 0);
        switch (what) {
            case 0: return trial.cell;
            case 1: return trial.lean;
            case 2: return trial.step - t;
            default: return bit(trial.isFallen(world.road));
        }
    }

    public int soonest(int head, int t, int i) {
        if (!isHead(head) || !isStep(t) || i < NONE) {
            return bad(BAD_NUMBER);
        }
        Plain kind = kind(world.kindOf(head));
        ways.fillSure(world.road, kind, 0);
        int steps = ways.costFrom(world.road, 0, t, world.setOf(head));
        if (steps >= Ways.FAR) {
            return NONE;
        }
        if (i == NONE) {
            return steps;
        }
        return i < steps ? firstPace(kind, world.setOf(head), t, i) : NOT_SO_MANY;
    }

    public int hour(int head) {
        if (!isHead(head)) {
            return bad(BAD);
        }
        ways.fillSure(world.road, kind(world.kindOf(head)), 0);
        int best = Ways.FAR;
        int hour = NONE;
        for (int t = 0; t < WINDS; t++) {
            int steps = ways.costFrom(world.road, 0, t, world.setOf(head));
            if (steps < best) {
                best = steps;
                hour = t;
            }
        }
        return hour;
    }

    public int sure(int head, int t, int b) {
        if (!isHead(head) || !isStep(t) || !within(b, 0, MOST_BOW)) {
            return bad(BAD);
        }
        ways.fillSure(world.road, kind(world.kindOf(head)), b);
        int steps = ways.costFrom(world.road, 0, t, world.setOf(head));
        return steps < Ways.FAR ? steps : NONE;
    }

    public int flat(int head, int t) {
        if (!isHead(head) || !isStep(t)) {
            return bad(BAD);
        }
        ways.fillFlat(world.road, kind(world.kindOf(head)));
        int cost = ways.costFrom(world.road, 0, t, world.setOf(head));
        return cost / Ways.ONE_FLAT > MOST_FLAT ? NONE : cost % Ways.ONE_FLAT;
    }

    // ---- where it fell

    public int note(int head, int t, int row, int cell) {
        if (!isHead(head) || !isStep(t) || !isRow(row)) {
            return bad(BAD);
        }
        if (cell != NONE && !isCell(cell)) {
            return bad(BAD);
        }
        if (world.notes >= MOST_NOTES) {
            return full();
        }
        world.addNote(head, t, row, cell);
        return world.notes;
    }

    public int forget() {
        int were = world.notes;
        world.notes = 0;
        return were;
    }

    public int is(int head) {
        return isHead(head) ? kindsThatFit(head) : bad(BAD);
    }

    public int bowl(int head) {
        if (!isHead(head)) {
            return bad(BAD);
        }
        int fitting = kindsThatFit(head);
        if (fitting == 0) {
            return NONE;
        }
        int bowl = NONE;
        int fewest = KINDS + 1;
        for (int pace = 1; pace <= MOST_PACE; pace++) {
            int most = mostThatEndAlike(head, fitting, pace);
            if (most < fewest) {
                fewest = most;
                bowl = pace;
            }
        }
        return bowl;
    }

    public int bowed(int head, int t, int row, int b, int cell) {
        if (!isHead(head) || !isStep(t) || !isRow(row)) {
            return bad(BAD);
        }
        if (!within(b, -MOST_BOW, MOST_BOW) || !isCell(cell)) {
            return bad(BAD);
        }
        int figures = figuresOf(row);
        int cells = 0;
        int came = 0;
        for (int i = 0; i < figures; i++) {
            came = world.road.cellBehind(came, paceOf(row, figures - 1 - i));
            tryRow(world.kindOf(head), head, t, row, i, b);
            boolean wasBowed = trial.step - t > i;
            if (wasBowed && trial.fellIn(world.road) == cell) {
                cells |= 1 << came;
            }
        }
        return cells;
    }

    public int pigeons(int head, int pace, int c) {
        if (!isHead(head) || !within(pace, 1, MOST_PACE) || !within(c, 0, TENTHS)) {
            return bad(BAD);
        }
        Plain kind = kind(world.kindOf(head));
        above = ways.through(world.road, kind, world.setOf(head), pace, c);
        below = 1;
        for (int s = 0; s < MOST_LENGTH && s * pace < world.road.length; s++) {
            below *= TENTHS;
        }
        long common = commonDivisor(above, below);
        if (common > 1) {
            above /= common;
            below /= common;
        }
        return 1;
    }

    public int crowned(int head, int seed, int n) {
        if (!isHead(head) || !within(seed, 0, MOST_SEED)
                || !within(n, 0, MOST_CORONATIONS)) {
            return bad(BAD);
        }
        Plain kind = kind(world.kindOf(head));
        long x = seed;
        int crowned = 0;
        for (int i = 0; i < n; i++) {
            trial.begin(head, 0, world.setOf(head));
            for (int s = 0; s < MOST_LENGTH && !trial.isOver(world.road); s++) {
                x = (x * 1103515245L + 12345L) % 2147483648L;
                trial.go(world.road, kind, (int) (x / 65536L % 3L) + 1, 0);
            }
            crowned += bit(trial.isThrough(world.road));
        }
        return crowned;
    }

    // ---- what there is

    public long part(int what) {
        if (!within(what, 0, 1)) {
            return bad(BAD);
        }
        return what == 0 ? above : below;
    }

    public int image(int i) {
        if (!within(i, 0, IMAGES - 1)) {
            return bad(BAD);
        }
        World image = images[i];
        if (image == null) {
            image = new World();
            images[i] = image;
        }
        image.copyFrom(world);
        return 1;
    }

    public int from(int i) {
        if (!within(i, 0, IMAGES - 1)) {
            return bad(BAD);
        }
        World image = images[i];
        if (image == null) {
            return no(NO);
        }
        world.copyFrom(image);
        return 1;
    }

    public int status(int what) {
        switch (what) {
            case 0: return refusedBad;
            case 1: return refusedNo;
            case 2: return refusedFull;
            default: return bad(-1);
        }
    }

    public int count(int what) {
        switch (what) {
            case 0: return world.heads;
            case 1: return world.road.length;
            case 2: return world.road.hold;
            case 3: return world.notes;
            case 4: return world.walk.kept;
            case 5: return reader.length;
            default: return bad(BAD);
        }
    }

    public long digest() {
        long h = 1087;
        for (int i = 0; i < COUNTS; i++) {
            h = 31 * h + count(i);
        }
        h = world.road.addTo(h);
        h = world.addHeadsTo(h);
        for (int i = 0; i < VIEWS; i++) {
            h = 31 * h + now(i);
        }
        h = world.addNotesTo(h);
        h = 31 * h + above;
        return 31 * h + below;
    }

    // ---- what the calls share

    private int bad(int answer) {
        refusedBad++;
        return answer;
    }

    private int no(int answer) {
        refusedNo++;
        return answer;
    }

    private int full() {
        refusedFull++;
        return FULL;
    }

    private static boolean within(int n, int least, int most) {
        return n >= least && n <= most;
    }

    private static int bit(boolean so) {
        return so ? 1 : 0;
    }

    private boolean isHead(int head) {
        return within(head, 0, world.heads - 1);
    }

    private boolean isCell(int c) {
        return within(c, 0, world.road.length);
    }

    private static boolean isStep(int t) {
        return within(t, 0, WINDS - 1);
    }

    private Plain kind(int number) {
        return kinds[within(number, 0, KINDS - 1) ? number : 0];
    }

    private static boolean isRow(int row) {
        if (row < 0) {
            return false;
        }
        int rest = row;
        for (int i = 0; i < TENS.length && rest > 0; i++) {
            if (!within(rest % 10, 1, MOST_PACE)) {
                return false;
            }
            rest /= 10;
        }
        return rest == 0;
    }

    private static int figuresOf(int row) {
        int figures = 0;
        for (int i = 0; i < TENS.length; i++) {
            figures += bit(row >= TENS[i]);
        }
        return figures;
    }

    /** Places are counted from the last figure, which is place 0. */
    private static int paceOf(int row, int place) {
        return within(place, 0, TENS.length - 1) ? row / TENS[place] % 10 : 0;
    }

    /** Leaves the trial where the row ends; step bowAt of it (none: NONE) is bowed by b. */
    private void tryRow(int kind, int head, int t, int row, int bowAt, int b) {
        int figures = figuresOf(row);
        trial.begin(head, t, world.setOf(head));
        for (int i = 0; i < figures && !trial.isOver(world.road); i++) {
            int pace = paceOf(row, figures - 1 - i);
            trial.go(world.road, kind(kind), pace, i == bowAt ? b : 0);
        }
    }

    /** The ways must be filled for a mob that bows by 0, and the row must be so long. */
    private int firstPace(Plain kind, int set, int t, int i) {
        trial.begin(0, t, set);
        int pace = NONE;
        for (int s = 0; s <= i && s < MOST_LENGTH; s++) {
            pace = ways.leastBestPace(world.road, kind, trial.cell, trial.step, trial.lean);
            trial.go(world.road, kind, pace, 0);
        }
        return pace;
    }

    private int kindsThatFit(int head) {
        int fitting = (1 << KINDS) - 1;
        for (int i = 0; i < world.notes && i < MOST_NOTES; i++) {
            for (int kind = 0; kind < KINDS && world.noteHeads[i] == head; kind++) {
                tryRow(kind, head, world.noteSteps[i], world.noteRows[i], NONE, 0);
                if (trial.fellIn(world.road) != world.noteCells[i]) {
                    fitting &= ~(1 << kind);
                }
            }
        }
        return fitting;
    }

    private int mostThatEndAlike(int head, int fitting, int pace) {
        for (int c = 0; c < ends.length; c++) {
            ends[c] = 0;
        }
        int most = 0;
        for (int kind = 0; kind < KINDS; kind++) {
            if ((fitting & 1 << kind) != 0) {
                int end = endOfPace(kind, head, pace);
                if (within(end, 0, ends.length - 1)) {
                    ends[end]++;
                    most = Math.max(most, ends[end]);
                }
            }
        }
        return most;
    }

    private int endOfPace(int kind, int head, int pace) {
        trial.begin(head, 0, world.setOf(head));
        for (int s = 0; s < MOST_LENGTH && !trial.isOver(world.road); s++) {
            trial.go(world.road, kind(kind), pace, 0);
        }
        return trial.cell;
    }

    private static long commonDivisor(long a, long b) {
        long high = a;
        long low = b;
        // Numbers up to 10^15 take Euclid fewer than 80 rounds.
        for (int i = 0; i < 100 && low != 0; i++) {
            long rest = high % low;
            high = low;
            low = rest;
        }
        return high;
    }

    /** A plain head; each other kind alters what the kind above it says. */
    private static class Plain {
        int leanBehind(int lean, int cobble, int wind, int pace) {
            return lean + cobble + wind;
        }
    }

    private static class Stiff extends Plain {
        int leanBehind(int lean, int cobble, int wind, int pace) {
            int plain = super.leanBehind(lean, cobble, wind, pace);
            if (plain > 0) {
                return plain - 1;
            }
            return plain < 0 ? plain + 1 : 0;
        }
    }

    private static class ShortStep extends Plain {
        int leanBehind(int lean, int cobble, int wind, int pace) {
            int felt = pace == 3 ? 2 * cobble : cobble;
            return super.leanBehind(lean, felt, wind, pace);
        }
    }

    private static final class Bowed extends Stiff {
        int leanBehind(int lean, int cobble, int wind, int pace) {
            return super.leanBehind(lean, cobble, wind, pace) + 1;
        }
    }

    private static final class Nodder extends Stiff {
        int leanBehind(int lean, int cobble, int wind, int pace) {
            int stiff = super.leanBehind(lean, cobble, wind, pace);
            return pace == 2 ? -stiff : stiff;
        }
    }

    private static final class Bred extends ShortStep {
        int leanBehind(int lean, int cobble, int wind, int pace) {
            return super.leanBehind(lean, cobble, 0, pace);
        }
    }

    /** The cells with their cobbles, the winds, and what lean a head can hold. */
    private static final class Road {
        private int length = FIRST_LENGTH;
        private int hold = FIRST_HOLD;
        private final int[] cobbles = new int[MOST_CELLS];
        private final int[] winds = new int[WINDS];

        private void beginAnew(int newLength, int newHold) {
            length = newLength;
            hold = newHold;
            for (int c = 0; c < cobbles.length; c++) {
                cobbles[c] = 0;
            }
            for (int i = 0; i < winds.length; i++) {
                winds[i] = 0;
            }
        }

        private void copyFrom(Road other) {
            length = other.length;
            hold = other.hold;
            System.arraycopy(other.cobbles, 0, cobbles, 0, MOST_CELLS);
            System.arraycopy(other.winds, 0, winds, 0, WINDS);
        }

        private int cobbleOf(int c) {
            return within(c, 0, cobbles.length - 1) ? cobbles[c] : 0;
        }

        private void layCobble(int c, int n) {
            if (within(c, 0, cobbles.length - 1)) {
                cobbles[c] = n;
            }
        }

        private int windIn(int t) {
            return winds[Math.floorMod(t, WINDS)];
        }

        private void setWind(int i, int n) {
            winds[Math.floorMod(i, WINDS)] = n;
        }

        private int cellBehind(int c, int pace) {
            return Math.min(c + pace, length);
        }

        private boolean fells(int lean) {
            return lean > hold || lean < -hold;
        }

        private long addTo(long digest) {
            long h = digest;
            for (int c = 0; c <= length && c < MOST_CELLS; c++) {
                h = 31 * h + cobbles[c];
            }
            for (int i = 0; i < WINDS; i++) {
                h = 31 * h + winds[i];
            }
            return h;
        }
    }

    /** One head on its way, and the states of it that may be taken back. */
    private static final class Walk {
        private int head = NONE;
        private int cell = 0;
        private int step = 0;
        private int lean = 0;
        private int kept = 0;
        private final int[] keptCells = new int[MOST_UNDOS];
        private final int[] keptSteps = new int[MOST_UNDOS];
        private final int[] keptLeans = new int[MOST_UNDOS];

        private void begin(int who, int t, int set) {
            head = who;
            cell = 0;
            step = t;
            lean = set;
            kept = 0;
        }

        private void copyFrom(Walk other) {
            head = other.head;
            cell = other.cell;
            step = other.step;
            lean = other.lean;
            kept = other.kept;
            System.arraycopy(other.keptCells, 0, keptCells, 0, MOST_UNDOS);
            System.arraycopy(other.keptSteps, 0, keptSteps, 0, MOST_UNDOS);
            System.arraycopy(other.keptLeans, 0, keptLeans, 0, MOST_UNDOS);
        }

        private boolean isFallen(Road road) {
            return road.fells(lean);
        }

        private boolean isThrough(Road road) {
            return cell >= road.length && !isFallen(road);
        }

        private boolean isOver(Road road) {
            return cell >= road.length || isFallen(road);
        }

        private int fellIn(Road road) {
            return isFallen(road) ? cell : NONE;
        }

        /** The bow comes behind the step's own lean: only their sum can fall. */
        private void go(Road road, Plain kind, int pace, int bow) {
            cell = road.cellBehind(cell, pace);
            lean = kind.leanBehind(lean, road.cobbleOf(cell), road.windIn(step), pace) + bow;
            step++;
        }

        private void keep() {
            if (kept >= MOST_UNDOS) {
                dropOldest();
            }
            if (within(kept, 0, MOST_UNDOS - 1)) {
                keptCells[kept] = cell;
                keptSteps[kept] = step;
                keptLeans[kept] = lean;
                kept++;
            }
        }

        private void dropOldest() {
            for (int i = 1; i < MOST_UNDOS; i++) {
                keptCells[i - 1] = keptCells[i];
                keptSteps[i - 1] = keptSteps[i];
                keptLeans[i - 1] = keptLeans[i];
            }
            kept = MOST_UNDOS - 1;
        }

        private void takeBack() {
            if (within(kept, 1, MOST_UNDOS)) {
                kept--;
                cell = keptCells[kept];
                step = keptSteps[kept];
                lean = keptLeans[kept];
            }
        }
    }

    /** All that an image keeps and that a text can tell anew. */
    private static final class World {
        private final Road road = new Road();
        private final Walk walk = new Walk();
        private int heads = 0;
        private final int[] headKinds = new int[MOST_HEADS];
        private final int[] headSets = new int[MOST_HEADS];
        private int notes = 0;
        private final int[] noteHeads = new int[MOST_NOTES];
        private final int[] noteSteps = new int[MOST_NOTES];
        private final int[] noteRows = new int[MOST_NOTES];
        private final int[] noteCells = new int[MOST_NOTES];

        private void beginAnew(int length, int hold) {
            road.beginAnew(length, hold);
            walk.begin(NONE, 0, 0);
            heads = 0;
            notes = 0;
        }

        private void copyFrom(World other) {
            road.copyFrom(other.road);
            walk.copyFrom(other.walk);
            heads = other.heads;
            System.arraycopy(other.headKinds, 0, headKinds, 0, MOST_HEADS);
            System.arraycopy(other.headSets, 0, headSets, 0, MOST_HEADS);
            notes = other.notes;
            System.arraycopy(other.noteHeads, 0, noteHeads, 0, MOST_NOTES);
            System.arraycopy(other.noteSteps, 0, noteSteps, 0, MOST_NOTES);
            System.arraycopy(other.noteRows, 0, noteRows, 0, MOST_NOTES);
            System.arraycopy(other.noteCells, 0, noteCells, 0, MOST_NOTES);
        }

        private void addHead(int kind, int set) {
            if (within(heads, 0, MOST_HEADS - 1)) {
                headKinds[heads] = kind;
                headSets[heads] = set;
                heads++;
            }
        }

        private int kindOf(int head) {
            return within(head, 0, MOST_HEADS - 1) ? headKinds[head] : 0;
        }

        private int setOf(int head) {
            return within(head, 0, MOST_HEADS - 1) ? headSets[head] : 0;
        }

        private void addNote(int head, int t, int row, int cell) {
            if (within(notes, 0, MOST_NOTES - 1)) {
                noteHeads[notes] = head;
                noteSteps[notes] = t;
                noteRows[notes] = row;
                noteCells[notes] = cell;
                notes++;
            }
        }

        private long addHeadsTo(long digest) {
            long h = digest;
            for (int i = 0; i < heads && i < MOST_HEADS; i++) {
                h = 31 * h + headKinds[i];
                h = 31 * h + headSets[i];
            }
            return h;
        }

        private long addNotesTo(long digest) {
            long h = digest;
            for (int i = 0; i < notes && i < MOST_NOTES; i++) {
                h = 31 * h + noteHeads[i];
                h = 31 * h + noteSteps[i];
                h = 31 * h + noteRows[i];
                h = 31 * h + noteCells[i];
            }
            return h;
        }
    }

    /**
     * What it costs to come through from every cell, step and lean. A cell is
     * never come to twice, so filling from the fountain backwards is exact,
     * and a step matters only by its wind.
     */
    private static final class Ways {
        private static final int FAR = 1 << 24;
        // A cost in flats is how many above the bits of which: comparing costs
        // compares the numbers first and the bits next, and costs can be added,
        // as the cells of one way all differ.
        private static final int ONE_FLAT = 1 << MOST_CELLS;
        private static final int LEANS = 2 * MOST_HOLD + 1;

        // The fountain itself costs nothing, so only the cells ahead of it are kept.
        private final int[] costs = new int[MOST_LENGTH * WINDS * LEANS];
        private final long[] chances = new long[LEANS];
        private final long[] nextChances = new long[LEANS];

        private int costFrom(Road road, int cell, int t, int lean) {
            if (road.fells(lean)) {
                return FAR;
            }
            if (cell >= road.length) {
                return 0;
            }
            int place = placeOf(cell, t, lean);
            return within(place, 0, costs.length - 1) ? costs[place] : FAR;
        }

        private void put(int cell, int t, int lean, int cost) {
            int place = placeOf(cell, t, lean);
            if (within(place, 0, costs.length - 1)) {
                costs[place] = cost;
            }
        }

        private static int placeOf(int cell, int t, int lean) {
            return (cell * WINDS + Math.floorMod(t, WINDS)) * LEANS + lean + MOST_HOLD;
        }

        private void fillSure(Road road, Plain kind, int b) {
            for (int cell = road.length - 1; cell >= 0; cell--) {
                for (int t = 0; t < WINDS; t++) {
                    for (int lean = -road.hold; lean <= road.hold; lean++) {
                        int best = FAR;
                        for (int pace = 1; pace <= MOST_PACE; pace++) {
                            best = Math.min(best, worst(road, kind, cell, t, lean, pace, b));
                        }
                        put(cell, t, lean, best);
                    }
                }
            }
        }

        /** The steps that are left at this pace, if the mob does its best. */
        private int worst(Road road, Plain kind, int cell, int t, int lean, int pace, int b) {
            int to = road.cellBehind(cell, pace);
            int then = kind.leanBehind(lean, road.cobbleOf(to), road.windIn(t), pace);
            int steps = costFrom(road, to, t + 1, then);
            if (b != 0) {
                steps = Math.max(steps, costFrom(road, to, t + 1, then - b));
                steps = Math.max(steps, costFrom(road, to, t + 1, then + b));
            }
            return steps + 1;
        }

        private int leastBestPace(Road road, Plain kind, int cell, int t, int lean) {
            int steps = costFrom(road, cell, t, lean);
            for (int pace = 1; pace < MOST_PACE; pace++) {
                if (worst(road, kind, cell, t, lean, pace, 0) == steps) {
                    return pace;
                }
            }
            return MOST_PACE;
        }

        private void fillFlat(Road road, Plain kind) {
            for (int cell = road.length - 1; cell >= 0; cell--) {
                for (int t = 0; t < WINDS; t++) {
                    for (int lean = -road.hold; lean <= road.hold; lean++) {
                        int best = FAR;
                        for (int pace = 1; pace <= MOST_PACE; pace++) {
                            best = Math.min(best, fewestFlat(road, kind, cell, t, lean, pace));
                        }
                        put(cell, t, lean, best);
                    }
                }
            }
        }

        private int fewestFlat(Road road, Plain kind, int cell, int t, int lean, int pace) {
            int to = road.cellBehind(cell, pace);
            int wind = road.windIn(t);
            int asLaid = kind.leanBehind(lean, road.cobbleOf(to), wind, pace);
            int onFlat = kind.leanBehind(lean, 0, wind, pace);
            int laid = ONE_FLAT + (1 << to);
            return Math.min(costFrom(road, to, t + 1, asLaid), laid + costFrom(road, to, t + 1, onFlat));
        }

        /** The chance of coming through at one pace, times 10 for each step of it. */
        private long through(Road road, Plain kind, int set, int pace, int c) {
            for (int i = 0; i < LEANS; i++) {
                nextChances[i] = 0;
            }
            addChance(road, set, 1);
            int cell = 0;
            for (int t = 0; t < MOST_LENGTH && cell < road.length; t++) {
                cell = road.cellBehind(cell, pace);
                turnChances();
                for (int lean = -road.hold; lean <= road.hold; lean++) {
                    long chance = chanceOf(lean);
                    int then = kind.leanBehind(lean, road.cobbleOf(cell), road.windIn(t), pace);
                    addChance(road, then, chance * (TENTHS - c));
                    addChance(road, then + 1, chance * c);
                }
            }
            long sum = 0;
            for (int i = 0; i < LEANS; i++) {
                sum += nextChances[i];
            }
            return sum;
        }

        private void turnChances() {
            for (int i = 0; i < LEANS; i++) {
                chances[i] = nextChances[i];
                nextChances[i] = 0;
            }
        }

        private long chanceOf(int lean) {
            int i = lean + MOST_HOLD;
            return within(i, 0, LEANS - 1) ? chances[i] : 0;
        }

        private void addChance(Road road, int lean, long chance) {
            int i = lean + MOST_HOLD;
            if (!road.fells(lean) && within(i, 0, LEANS - 1)) {
                nextChances[i] += chance;
            }
        }
    }

    /** The text, and the token of it that is being looked at. */
    private static final class Reader {
        private static final int OVER = 0, WORD = 1, NUMBER = 2, END = 3, STRANGE = 4;
        private static final int MOST_FIGURES = 2;
        private static final int MOST_ITEMS = MOST_BYTES;

        private final int[] text = new int[MOST_BYTES];
        private int length = 0;
        private int sort = OVER;
        private int start = 0;
        private int end = 0;

        private void add(int c) {
            if (within(length, 0, MOST_BYTES - 1)) {
                text[length] = c;
                length++;
            }
        }

        /** How many items the world has; NONE, and then the fault is at start. */
        private int tell(World world) {
            end = 0;
            for (int items = 0; items < MOST_ITEMS; items++) {
                nextToken();
                if (sort == OVER && items > 0) {
                    return items;
                }
                boolean stands = items == 0 ? tellRoad(world) : tellItem(world);
                if (!stands) {
                    return NONE;
                }
            }
            return NONE;
        }

        private boolean tellRoad(World world) {
            if (!isWord("road")) {
                return false;
            }
            int cells = nextNumber(1, MOST_LENGTH);
            int hold = cells == NONE ? NONE : nextNumber(1, MOST_HOLD);
            if (hold == NONE || !nextIsEnd()) {
                return false;
            }
            world.beginAnew(cells, hold);
            return true;
        }

        private boolean tellItem(World world) {
            if (isWord("cobble")) {
                return tellCobble(world, 1);
            }
            if (isWord("hole")) {
                return tellCobble(world, -1);
            }
            if (isWord("wind")) {
                return tellWind(world, 1);
            }
            if (isWord("lull")) {
                return tellWind(world, -1);
            }
            if (isWord("head")) {
                return tellHead(world, 1);
            }
            return isWord("bent") && tellHead(world, -1);
        }

        private boolean tellCobble(World world, int sign) {
            int c = nextNumber(0, world.road.length);
            int n = c == NONE ? NONE : nextNumber(0, MOST_COBBLE);
            if (n == NONE || !nextIsEnd()) {
                return false;
            }
            world.road.layCobble(c, sign * n);
            return true;
        }

        private boolean tellWind(World world, int sign) {
            int i = nextNumber(0, WINDS - 1);
            int n = i == NONE ? NONE : nextNumber(0, MOST_WIND);
            if (n == NONE || !nextIsEnd()) {
                return false;
            }
            world.road.setWind(i, sign * n);
            return true;
        }

        private boolean tellHead(World world, int sign) {
            if (world.heads >= MOST_HEADS) {
                return false;
            }
            int kind = nextNumber(0, KINDS - 1);
            int n = kind == NONE ? NONE : nextNumber(0, MOST_SET);
            if (n == NONE || !nextIsEnd()) {
                return false;
            }
            world.addHead(kind, sign * n);
            return true;
        }

        /** The next token as a number from least to most; NONE if it is not such a one. */
        private int nextNumber(int least, int most) {
            nextToken();
            if (sort != NUMBER || end - start > MOST_FIGURES) {
                return NONE;
            }
            int number = 0;
            for (int i = start; i < end; i++) {
                number = number * 10 + byteAt(i) - '0';
            }
            return within(number, least, most) ? number : NONE;
        }

        private boolean nextIsEnd() {
            nextToken();
            return sort == END;
        }

        private boolean isWord(String word) {
            if (sort != WORD || end - start != word.length()) {
                return false;
            }
            for (int i = 0; i < word.length(); i++) {
                if (byteAt(start + i) != word.charAt(i)) {
                    return false;
                }
            }
            return true;
        }

        private void nextToken() {
            start = end;
            while (start < length && byteAt(start) == ' ') {
                start++;
            }
            sort = start < length ? sortOf(byteAt(start)) : OVER;
            end = Math.min(start + 1, length);
            if (sort == WORD || sort == NUMBER) {
                while (end < length && sortOf(byteAt(end)) == sort) {
                    end++;
                }
            }
        }

        private static int sortOf(int c) {
            if (c >= 'a' && c <= 'z') {
                return WORD;
            }
            if (c >= '0' && c <= '9') {
                return NUMBER;
            }
            return c == ';' ? END : STRANGE;
        }

        private int byteAt(int place) {
            return place >= 0 && place < MOST_BYTES ? text[place] : 0;
        }
    }
}
