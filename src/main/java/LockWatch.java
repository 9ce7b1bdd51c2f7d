import java.util.Arrays;

/** Watches who touches what under which lock, in traces of up to four threads. */
public final class LockWatch {
    public static final int UNKNOWN = -1, OUTSIDE = -2, STATE = -3, FULL = -4, NONE = -9;

    /** As many THREADS, LOCKS and CELLS there are; also the most EDGES of a RING and the most doings to judge. */
    private static final int FOUR = 4;
    private static final int ALL = 15;
    private static final int MOST_LETTERS = 64;
    private static final int MOST_STEPS = 20;
    private static final int STEP_LETTERS = 3;
    private static final int MOST_ACTS = 14;
    private static final int MOST_SEEN = 6;
    private static final int MOST_LOST = 9;
    private static final int MOST_DRAWN = 20;
    private static final int SLOTS = 2;

    private static final int TAKES_TO_WRITE = 'l', TAKES_TO_READ = 's', GIVES_BACK = 'u';
    private static final int READS = 'r', WRITES = 'w', STARTS = 'f', AWAITS = 'j';

    private static final long SEED_TIMES = 6364136223846793005L, SEED_MORE = 1442695040888963407L;

    /** One more than the greatest row of 0 to 4 doings. */
    private static final long[] DOINGS = {1L, 10000L, 100000000L, 1000000000000L, 10000000000000000L};

    /** Of the 24 orders of LOCKS, those in which just these 0 to 3 LOCKS have come ahead of a certain one. */
    private static final int[] ORDERS = {6, 2, 2, 6};
    private static final int ALL_ORDERS = 24;

    private final Text text;
    private final Row steps;
    /** A row to try things on; no answer depends on what an earlier call left in it. */
    private final Row trial;
    private final Row[] kept;
    private final boolean[] isKept;
    private final Acts acts;
    private final Seen seen;
    private final Rings ringsFound;
    private final Chances chances;
    private long theSeed;

    public LockWatch() {
        text = new Text();
        steps = new Row();
        trial = new Row();
        kept = new Row[SLOTS];
        for (int slot = 0; slot < SLOTS; slot++) {
            kept[slot] = new Row();
        }
        isKept = new boolean[SLOTS];
        acts = new Acts();
        seen = new Seen();
        ringsFound = new Rings();
        chances = new Chances();
        theSeed = 0L;
    }

    // ---- the trace

    public int write(int letter) {
        if (letter < 0 || letter > 255) {
            return OUTSIDE;
        }
        return text.put(letter) ? text.length : FULL;
    }

    public int wipe() {
        int was = text.length;
        text.length = 0;
        return was;
    }

    public int fault() {
        return text.tell(trial);
    }

    public int trace() {
        if (text.tell(trial) != NONE) {
            return STATE;
        }
        steps.copy(trial);
        acts.size = 0;
        for (int slot = 0; slot < SLOTS; slot++) {
            isKept[slot] = false;
        }
        return steps.size;
    }

    public int step(int step, int what) {
        if (!steps.has(step)) {
            return UNKNOWN;
        }
        switch (what) {
            case 0: return steps.threadAt(step);
            case 1: return steps.signAt(step);
            case 2: return steps.aboutAt(step);
            case 3: return steps.heldToWrite[step];
            case 4: return steps.heldToRead[step];
            default: return OUTSIDE;
        }
    }

    // ---- acts

    public int drop(int step) {
        if (!steps.has(step)) {
            return UNKNOWN;
        }
        int gone = steps.code[step];
        if (!steps.takeOut(step)) {
            return STATE;
        }
        acts.push(step, gone);
        return steps.size;
    }

    public int swap(int step) {
        if (!steps.hasPair(step)) {
            return UNKNOWN;
        }
        int thread = steps.threadAt(step);
        if (!steps.changePlaces(step)) {
            return STATE;
        }
        acts.push(step, Acts.CHANGED);
        return thread;
    }

    public int undo() {
        if (acts.size == 0) {
            return STATE;
        }
        acts.takeBack(steps);
        return acts.size;
    }

    // ---- cells

    public int cell(int cell, int n, int what) {
        if (!isOneOfFour(cell)) {
            return UNKNOWN;
        }
        if (n < 0 || n > steps.size) {
            return OUTSIDE;
        }
        int watched = Cells.watch(steps, cell, n, NONE, ALL);
        switch (what) {
            case 0: return Cells.stateOf(watched);
            case 1: return Cells.candidatesOf(watched);
            case 2: return Cells.ownerOf(watched);
            case 3: return Cells.flaggedBy(steps, cell, n);
            case 4: return Cells.touches(steps, cell, n);
            default: return OUTSIDE;
        }
    }

    public int ahead(int step, int other) {
        if (!steps.has(step) || !steps.has(other)) {
            return UNKNOWN;
        }
        return steps.isAhead(step, other) ? 1 : 0;
    }

    public int meetings(int cell, int what) {
        if (!isOneOfFour(cell)) {
            return UNKNOWN;
        }
        switch (what) {
            case 0: return Cells.meetingCount(steps, cell);
            case 1: return Cells.leastMeeting(steps, cell);
            default: return OUTSIDE;
        }
    }

    // ---- rings

    public int edges(int what) {
        if (what < 0 || what > FOUR * FOUR) {
            return OUTSIDE;
        }
        ringsFound.collect(steps);
        return what == 0 ? ringsFound.size : ringsFound.between((what - 1) / FOUR, (what - 1) % FOUR);
    }

    public int rings(int size, int what) {
        if (size < 2 || size > FOUR || what < 0 || what >= Rings.SORTS) {
            return OUTSIDE;
        }
        ringsFound.find(steps);
        return ringsFound.tally[size * Rings.SORTS + what];
    }

    public int first() {
        ringsFound.find(steps);
        return ringsFound.least;
    }

    public int judge(int n, long row) {
        if (n < 1 || n > FOUR || row < 0L || row >= DOINGS[n]) {
            return OUTSIDE;
        }
        trial.copy(steps);
        for (int place = 0; place < n; place++) {
            int doing = (int) (row / DOINGS[n - 1 - place] % DOINGS[1]);
            if (!canBe(doing)) {
                return place;
            }
        }
        return NONE;
    }

    // ---- seen

    public int see(int cell, int state, int was) {
        if (!isOneOfFour(cell)) {
            return UNKNOWN;
        }
        if (state < 0 || state > 3 || was < 0 || was > 1) {
            return OUTSIDE;
        }
        return seen.put(cell, state, was == 1) ? seen.size : FULL;
    }

    public int unsee() {
        int was = seen.size;
        seen.size = 0;
        return was;
    }

    public int which(int what) {
        switch (what) {
            case 0: return seen.fittingCount(steps);
            case 1: return seen.leastFitting(steps);
            default: return OUTSIDE;
        }
    }

    // ---- shares, chances

    public int share(int lock, boolean upper) {
        if (!isOneOfFour(lock)) {
            return UNKNOWN;
        }
        int own = 1 << lock;
        int sum = 0;
        for (int come = 0; come <= ALL; come++) {
            if ((come & own) == 0) {
                int more = Cells.flaggedCount(steps, come) - Cells.flaggedCount(steps, come | own);
                sum += ORDERS[Integer.bitCount(come) & 3] * more;
            }
        }
        return fraction(sum, ALL_ORDERS, upper);
    }

    public int lost(int cell, int x, boolean upper) {
        if (!isOneOfFour(cell)) {
            return UNKNOWN;
        }
        if (x < 0 || x > 10) {
            return OUTSIDE;
        }
        if (Cells.touches(steps, cell, steps.size) > MOST_LOST) {
            return FULL;
        }
        chances.spread(steps, cell, x);
        return fraction(chances.ofFlagged(), chances.whole, upper);
    }

    public long seed(long v) {
        long was = theSeed;
        theSeed = v;
        return was;
    }

    public int drawn(int m) {
        if (m < 1 || m > MOST_DRAWN) {
            return OUTSIDE;
        }
        trial.copy(steps);
        int found = faultsOfTrial();
        int sum = 0;
        for (int time = 0; time < m; time++) {
            theSeed = theSeed * SEED_TIMES + SEED_MORE;
            int step = (int) ((theSeed >>> 33) % Math.max(1, trial.size));
            if (trial.takeOut(step)) {
                found = faultsOfTrial();
            }
            sum += found;
        }
        return sum;
    }

    // ---- slots

    public int keep(int slot) {
        if (slot < 0 || slot >= SLOTS) {
            return UNKNOWN;
        }
        kept[slot].copy(steps);
        isKept[slot] = true;
        return steps.size;
    }

    public int again(int slot) {
        if (slot < 0 || slot >= SLOTS) {
            return UNKNOWN;
        }
        if (!isKept[slot]) {
            return STATE;
        }
        steps.copy(kept[slot]);
        acts.size = 0;
        return steps.size;
    }

    public int count(int what) {
        switch (what) {
            case 0: return text.length;
            case 1: return steps.size;
            case 2: return steps.world.started;
            case 3: return steps.world.ended;
            case 4: return steps.world.allToWrite() | steps.world.allToRead();
            case 5: return Cells.flaggedBits(steps, ALL);
            case 6: return Cells.meetingBits(steps);
            case 7: return acts.size;
            case 8: return seen.size;
            default: return OUTSIDE;
        }
    }

    // ---- helpers

    private static boolean isOneOfFour(int number) {
        return number >= 0 && number < FOUR;
    }

    /** One of the two numbers of a fraction in least terms; below is 1 or more. */
    private static int fraction(long above, long below, boolean upper) {
        long divisor = below;
        long left = above;
        for (int turn = 0; turn < 100 && left != 0L; turn++) {
            long next = divisor % left;
            divisor = left;
            left = next;
        }
        if (divisor == 0L) {
            return upper ? 0 : 1;
        }
        return (int) ((upper ? above : below) / divisor);
    }

    /** How many CELLS are FLAGGED and RINGS FEASIBLE in the row that is tried on. */
    private int faultsOfTrial() {
        ringsFound.find(trial);
        return Cells.flaggedCount(trial, ALL) + ringsFound.feasible();
    }

    /** Does a told doing to the row that is tried on, or looks whether what it says is so. */
    private boolean canBe(int doing) {
        int pair = doing / 10 % 100;
        int last = doing % 10;
        switch (doing / 1000) {
            case 1: return last == 0 && trial.takeOut(pair);
            case 2: return last == 0 && trial.changePlaces(pair);
            case 3: return isCellSo(pair, false, last);
            case 4: return isCellSo(pair, true, last);
            case 5: return pair == 0 && areFeasible(last);
            case 6: return trial.has(pair) && last < FOUR && (trial.heldAt(pair) >> last & 1) == 1;
            default: return false;
        }
    }

    /** Whether the CELL that is told by a pair of figures, the second one 0, is FLAGGED (1) or not (0), or in a STATE. */
    private boolean isCellSo(int pair, boolean flagged, int told) {
        int cell = pair / 10;
        if (pair % 10 != 0 || cell >= FOUR) {
            return false;
        }
        int watched = Cells.watch(trial, cell, trial.size, NONE, ALL);
        int found = flagged ? (watched == Cells.FLAGGED ? 1 : 0) : Cells.stateOf(watched);
        return found == told;
    }

    private boolean areFeasible(int atLeast) {
        ringsFound.find(trial);
        return ringsFound.feasible() >= atLeast;
    }

    /** THREADS and LOCKS as they are between two STEPS; what is told as bits has a bit for each of them. */
    private static final class World {
        private int started;
        private int ended;
        private final int[] toWrite;
        private final int[] toRead;

        World() {
            toWrite = new int[FOUR];
            toRead = new int[FOUR];
            begin();
        }

        void begin() {
            started = 1;
            ended = 0;
            Arrays.fill(toWrite, 0);
            Arrays.fill(toRead, 0);
        }

        boolean lives(int thread) {
            return thread >= 0 && thread < FOUR && ((started & ~ended) >> thread & 1) == 1;
        }

        /** Bits of all that a THREAD's sign may be about now: 0, if there is nothing, or no such THREAD or sign. */
        int choices(int thread, int sign) {
            if (!lives(thread)) {
                return 0;
            }
            switch (sign) {
                case TAKES_TO_WRITE: return ALL & ~(allToWrite() | allToRead());
                case TAKES_TO_READ: return ALL & ~(allToWrite() | toRead[thread]);
                case GIVES_BACK: return toWrite[thread] | toRead[thread];
                case READS: return ALL;
                case WRITES: return ALL;
                case STARTS: return ALL & ~started;
                case AWAITS: return awaitable(thread);
                default: return 0;
            }
        }

        int allToWrite() {
            return toWrite[0] | toWrite[1] | toWrite[2] | toWrite[3];
        }

        int allToRead() {
            return toRead[0] | toRead[1] | toRead[2] | toRead[3];
        }

        private int awaitable(int thread) {
            int found = started & ~ended & ~(1 << thread);
            for (int other = 0; other < FOUR; other++) {
                if ((toWrite[other] | toRead[other]) != 0) {
                    found &= ~(1 << other);
                }
            }
            return found;
        }

        /** What a STEP does; it is one that may be. */
        void go(int thread, int sign, int about) {
            int bit = 1 << about;
            switch (sign) {
                case TAKES_TO_WRITE:
                    toWrite[thread] |= bit;
                    break;
                case TAKES_TO_READ:
                    toRead[thread] |= bit;
                    break;
                case GIVES_BACK:
                    toWrite[thread] &= ~bit;
                    toRead[thread] &= ~bit;
                    break;
                case STARTS:
                    started |= bit;
                    break;
                case AWAITS:
                    ended |= bit;
                    break;
                default:
                    break;
            }
        }
    }

    /** A TRACE: its STEPS, and for each what was HELD then and which STEPS are AHEAD of it (a bit each). */
    private static final class Row {
        private int size;
        /** The sign, then two bits of the THREAD, then two bits of what it is about. */
        private final int[] code;
        private final int[] heldToWrite;
        private final int[] heldToRead;
        /** Means something for touches alone. */
        private final int[] guards;
        private final int[] before;
        /** By THREAD: the STEPS that will be AHEAD of its next one, whatever that is. */
        private final int[] past;
        /** THREADS that have STEPS; a THREAD without any puts nothing AHEAD of the one that waits for its END. */
        private int acted;
        private final World world;

        Row() {
            code = new int[MOST_STEPS];
            heldToWrite = new int[MOST_STEPS];
            heldToRead = new int[MOST_STEPS];
            guards = new int[MOST_STEPS];
            before = new int[MOST_STEPS];
            past = new int[FOUR];
            world = new World();
            begin();
        }

        void begin() {
            size = 0;
            acted = 0;
            Arrays.fill(past, 0);
            world.begin();
        }

        static int pack(int thread, int sign, int about) {
            return sign << 4 | (thread & 3) << 2 | about & 3;
        }

        /** Puts a STEP behind the others, if it may be there. */
        boolean put(int packed) {
            int thread = packed >> 2 & 3;
            int sign = packed >> 4;
            int about = packed & 3;
            if (size >= MOST_STEPS || (world.choices(thread, sign) >> about & 1) == 0) {
                return false;
            }
            code[size] = packed;
            heldToWrite[size] = world.toWrite[thread];
            heldToRead[size] = world.toRead[thread];
            guards[size] = sign == WRITES ? heldToWrite[size] : heldToWrite[size] | heldToRead[size];
            order(thread, sign, about);
            world.go(thread, sign, about);
            size++;
            return true;
        }

        private void order(int thread, int sign, int about) {
            int mine = past[thread];
            if (sign == AWAITS && (acted >> about & 1) == 1) {
                mine |= past[about];
            }
            before[size] = mine;
            past[thread] = mine | 1 << size;
            if (sign == STARTS) {
                past[about] = past[thread];
            }
            acted |= 1 << thread;
        }

        void copy(Row other) {
            begin();
            for (int i = 0; i < other.size; i++) {
                put(other.code[i]);
            }
        }

        boolean has(int step) {
            return step >= 0 && step < size;
        }

        boolean hasPair(int step) {
            return step >= 0 && step < size - 1;
        }

        int threadAt(int step) {
            return code[step] >> 2 & 3;
        }

        int signAt(int step) {
            return code[step] >> 4;
        }

        int aboutAt(int step) {
            return code[step] & 3;
        }

        int heldAt(int step) {
            return heldToWrite[step] | heldToRead[step];
        }

        boolean isAhead(int step, int other) {
            return (before[other] >> step & 1) == 1;
        }

        boolean takesAt(int step) {
            int sign = code[step] >> 4;
            return sign == TAKES_TO_WRITE || sign == TAKES_TO_READ;
        }

        boolean writesAt(int step) {
            return code[step] >> 4 == WRITES;
        }

        boolean isTouch(int step) {
            int sign = code[step] >> 4;
            return sign == READS || sign == WRITES;
        }

        boolean touchesAt(int step, int cell) {
            return isTouch(step) && (code[step] & 3) == cell;
        }

        /** Drops a STEP, if there is one and what is left is a TRACE. */
        boolean takeOut(int step) {
            if (!has(step)) {
                return false;
            }
            int was = size;
            int gone = code[step];
            for (int i = step; i < was - 1; i++) {
                code[i] = code[i + 1];
            }
            if (replay(was - 1)) {
                return true;
            }
            open(step, gone, was);
            replay(was);
            return false;
        }

        /** Puts a dropped STEP back to its place, if there is room for it. */
        void putBack(int step, int gone) {
            if (size < MOST_STEPS && step >= 0 && step <= size) {
                int wanted = size + 1;
                open(step, gone, wanted);
                replay(wanted);
            }
        }

        /** Makes room at a place by moving the codes behind it, so that there are as many as wanted. */
        private void open(int step, int packed, int wanted) {
            for (int i = wanted - 1; i > step; i--) {
                code[i] = code[i - 1];
            }
            code[step] = packed;
        }

        /** Lets a STEP and the one behind it change places, if there are both and what is left is a TRACE. */
        boolean changePlaces(int step) {
            if (!hasPair(step)) {
                return false;
            }
            int was = size;
            exchange(step);
            if (replay(was)) {
                return true;
            }
            exchange(step);
            replay(was);
            return false;
        }

        private void exchange(int step) {
            int one = code[step];
            code[step] = code[step + 1];
            code[step + 1] = one;
        }

        /** Goes through the first codes again; what lies behind a STEP that can not be is left in its place. */
        private boolean replay(int wanted) {
            begin();
            for (int i = 0; i < wanted && i < MOST_STEPS; i++) {
                if (!put(code[i])) {
                    return false;
                }
            }
            return true;
        }
    }

    /** THE TEXT. */
    private static final class Text {
        private int length;
        private final int[] letters;

        Text() {
            letters = new int[MOST_LETTERS];
        }

        boolean put(int letter) {
            if (length >= MOST_LETTERS) {
                return false;
            }
            letters[length] = letter;
            length++;
            return true;
        }

        /** The FAULT; the STEPS ahead of it are put into a row. */
        int tell(Row into) {
            into.begin();
            if (length == 0 || letters[0] != 'T') {
                return 0;
            }
            for (int at = 1; at < length; at += STEP_LETTERS) {
                int found = tellStep(at, into);
                if (found != NONE) {
                    return found;
                }
            }
            return NONE;
        }

        private int tellStep(int at, Row into) {
            int thread = letters[at] - '0';
            if (into.size >= MOST_STEPS || !into.world.lives(thread)) {
                return at;
            }
            if (at + 1 >= length) {
                return length;
            }
            int sign = letters[at + 1];
            if (into.world.choices(thread, sign) == 0) {
                return at + 1;
            }
            if (at + 2 >= length) {
                return length;
            }
            int about = letters[at + 2] - firstLetter(sign);
            if (!isOneOfFour(about) || !into.put(Row.pack(thread, sign, about))) {
                return at + 2;
            }
            return NONE;
        }

        private static int firstLetter(int sign) {
            if (sign == STARTS || sign == AWAITS) {
                return '0';
            }
            return sign == READS || sign == WRITES ? 'a' : 'A';
        }
    }

    /** THE ROW of ACTS. */
    private static final class Acts {
        /** Stands for the dropped STEP where two changed places. */
        private static final int CHANGED = -1;
        private int size;
        private final int[] place;
        private final int[] gone;

        Acts() {
            place = new int[MOST_ACTS];
            gone = new int[MOST_ACTS];
        }

        void push(int step, int packed) {
            if (size >= MOST_ACTS) {
                for (int i = 1; i < MOST_ACTS; i++) {
                    place[i - 1] = place[i];
                    gone[i - 1] = gone[i];
                }
                size = MOST_ACTS - 1;
            }
            place[size] = step;
            gone[size] = packed;
            size++;
        }

        void takeBack(Row steps) {
            if (size == 0) {
                return;
            }
            size--;
            if (gone[size] != CHANGED) {
                steps.putBack(place[size], gone[size]);
            } else {
                steps.changePlaces(place[size]);
            }
        }
    }

    /**
     * What becomes of CELLS in a row. A watched CELL is one number: its STATE times 16 and, in STATE 1, the THREAD
     * it is of, in 2 and 3 its CANDIDATES.
     */
    private static final class Cells {
        private static final int STATE_BITS = 4;
        private static final int FLAGGED = 3 << STATE_BITS;
        private static final int WATCHED = 4 << STATE_BITS;

        static int stateOf(int watched) {
            return watched >> STATE_BITS;
        }

        static int candidatesOf(int watched) {
            return stateOf(watched) >= 2 ? watched & ALL : ALL;
        }

        static int ownerOf(int watched) {
            return stateOf(watched) == 1 ? watched & 3 : NONE;
        }

        /** A watched CELL behind the touch of a STEP, if only some LOCKS can be GUARDS. */
        static int touch(int watched, Row row, int step, int locks) {
            int state = stateOf(watched);
            int thread = row.threadAt(step);
            if (state == 0) {
                return 1 << STATE_BITS | thread;
            }
            if (state == 1 && (watched & 3) == thread) {
                return watched;
            }
            int were = state == 1 ? ALL : watched & ALL;
            int next = state == 3 || row.writesAt(step) ? 3 : 2;
            return next << STATE_BITS | were & row.guards[step] & locks;
        }

        /** A CELL behind the first n STEPS, of which one may be left out. */
        static int watch(Row row, int cell, int n, int unwatched, int locks) {
            int watched = 0;
            for (int i = 0; i < n && i < row.size; i++) {
                if (i != unwatched && row.touchesAt(i, cell)) {
                    watched = touch(watched, row, i, locks);
                }
            }
            return watched;
        }

        static int flaggedBy(Row row, int cell, int n) {
            int watched = 0;
            for (int i = 0; i < n && i < row.size; i++) {
                if (row.touchesAt(i, cell)) {
                    watched = touch(watched, row, i, ALL);
                }
                if (watched == FLAGGED) {
                    return i;
                }
            }
            return NONE;
        }

        static int flaggedBits(Row row, int locks) {
            int bits = 0;
            for (int cell = 0; cell < FOUR; cell++) {
                if (watch(row, cell, row.size, NONE, locks) == FLAGGED) {
                    bits |= 1 << cell;
                }
            }
            return bits;
        }

        static int flaggedCount(Row row, int locks) {
            return Integer.bitCount(flaggedBits(row, locks));
        }

        static int touches(Row row, int cell, int n) {
            int found = 0;
            for (int i = 0; i < n && i < row.size; i++) {
                if (row.touchesAt(i, cell)) {
                    found++;
                }
            }
            return found;
        }

        /** Whether two STEPS, the earlier one first, are a MEETING of a CELL. */
        private static boolean meet(Row row, int cell, int early, int late) {
            return row.touchesAt(early, cell) && row.touchesAt(late, cell)
                && row.threadAt(early) != row.threadAt(late)
                && (row.writesAt(early) || row.writesAt(late))
                && !row.isAhead(early, late)
                && (row.guards[early] & row.guards[late]) == 0;
        }

        static int meetingCount(Row row, int cell) {
            int found = 0;
            for (int early = 0; early < row.size; early++) {
                for (int late = early + 1; late < row.size; late++) {
                    if (meet(row, cell, early, late)) {
                        found++;
                    }
                }
            }
            return found;
        }

        static int leastMeeting(Row row, int cell) {
            for (int early = 0; early < row.size; early++) {
                for (int late = early + 1; late < row.size; late++) {
                    if (meet(row, cell, early, late)) {
                        return 100 * early + late;
                    }
                }
            }
            return NONE;
        }

        static int meetingBits(Row row) {
            int bits = 0;
            for (int cell = 0; cell < FOUR; cell++) {
                if (leastMeeting(row, cell) != NONE) {
                    bits |= 1 << cell;
                }
            }
            return bits;
        }
    }

    /** EDGES of a row, and the RINGS that they make. */
    private static final class Rings {
        /** All, GATED, ORDERED, FEASIBLE. */
        private static final int SORTS = 4;
        private static final int MOST_EDGES = MOST_STEPS * FOUR;
        private int size;
        private final int[] at;
        private final int[] from;
        private final int[] to;
        /** By how many EDGES and by sort. */
        private final int[] tally;
        private int least;
        /** The EDGES of the RING that is being made: the first one has the least STEP, so each RING is made once. */
        private final int[] chain;

        Rings() {
            at = new int[MOST_EDGES];
            from = new int[MOST_EDGES];
            to = new int[MOST_EDGES];
            tally = new int[(FOUR + 1) * SORTS];
            chain = new int[FOUR];
            least = NONE;
        }

        void collect(Row row) {
            size = 0;
            for (int i = 0; i < row.size; i++) {
                for (int lock = 0; lock < FOUR; lock++) {
                    if (row.takesAt(i) && (row.heldAt(i) >> lock & 1) == 1 && size < MOST_EDGES) {
                        at[size] = i;
                        from[size] = lock;
                        to[size] = row.aboutAt(i);
                        size++;
                    }
                }
            }
        }

        int between(int one, int other) {
            int found = 0;
            for (int i = 0; i < size; i++) {
                if (from[i] == one && to[i] == other) {
                    found++;
                }
            }
            return found;
        }

        int feasible() {
            int found = 0;
            for (int edges = 2; edges <= FOUR; edges++) {
                found += tally[edges * SORTS + 3];
            }
            return found;
        }

        void find(Row row) {
            collect(row);
            Arrays.fill(tally, 0);
            least = NONE;
            for (int i = 0; i < size; i++) {
                chain[0] = i;
                grow(this, row, 1, 1 << row.threadAt(at[i]), 1 << from[i]);
            }
        }

        /** Puts each EDGE that fits behind the chain's first ones, whose THREADS and LOCKS are told as bits. */
        private static void grow(Rings rings, Row row, int depth, int threads, int locks) {
            if (depth < 1 || depth >= FOUR) {
                return;
            }
            int start = rings.chain[0];
            for (int i = 0; i < rings.size; i++) {
                int thread = 1 << row.threadAt(rings.at[i]);
                boolean later = rings.at[i] > rings.at[start] && (threads & thread) == 0;
                if (later && rings.links(row, rings.chain[depth - 1], i)) {
                    rings.chain[depth] = i;
                    if (rings.links(row, i, start)) {
                        rings.tallyRing(row, depth + 1);
                    } else if ((locks >> rings.to[i] & 1) == 0) {
                        grow(rings, row, depth + 1, threads | thread, locks | 1 << rings.from[i]);
                    }
                }
            }
        }

        /** Whether an EDGE goes to where another one is from, and not both have that LOCK to read. */
        private boolean links(Row row, int edge, int behind) {
            if (to[edge] != from[behind]) {
                return false;
            }
            boolean takesToRead = row.signAt(at[edge]) == TAKES_TO_READ;
            boolean heldToRead = (row.heldToRead[at[behind]] >> from[behind] & 1) == 1;
            return !(takesToRead && heldToRead);
        }

        private void tallyRing(Row row, int edges) {
            boolean gated = false;
            boolean ordered = false;
            int number = 0;
            for (int i = 0; i < edges; i++) {
                int one = at[chain[i]];
                number = number * 100 + one + 1;
                for (int j = 0; j < edges; j++) {
                    int other = at[chain[j]];
                    gated = gated || i != j && (row.heldToWrite[one] & row.heldAt(other)) != 0;
                    ordered = ordered || row.isAhead(one, other);
                }
            }
            int sorts = edges * SORTS;
            tally[sorts]++;
            tally[sorts + 1] += gated ? 1 : 0;
            tally[sorts + 2] += ordered ? 1 : 0;
            if (!gated && !ordered) {
                tally[sorts + 3]++;
                least = least == NONE ? number : Math.min(least, number);
            }
        }
    }

    /** What is SEEN. */
    private static final class Seen {
        private int size;
        private final int[] cell;
        private final int[] state;
        private final boolean[] was;

        Seen() {
            cell = new int[MOST_SEEN];
            state = new int[MOST_SEEN];
            was = new boolean[MOST_SEEN];
        }

        boolean put(int ofCell, int inState, boolean itWas) {
            if (size >= MOST_SEEN) {
                return false;
            }
            cell[size] = ofCell;
            state[size] = inState;
            was[size] = itWas;
            size++;
            return true;
        }

        /** Whether a STEP is a touch without which all that is SEEN is so. */
        private boolean fits(Row row, int step) {
            if (!row.isTouch(step)) {
                return false;
            }
            for (int i = 0; i < size; i++) {
                int watched = Cells.watch(row, cell[i], row.size, step, ALL);
                if ((Cells.stateOf(watched) == state[i]) != was[i]) {
                    return false;
                }
            }
            return true;
        }

        int fittingCount(Row row) {
            int found = 0;
            for (int step = 0; step < row.size; step++) {
                if (fits(row, step)) {
                    found++;
                }
            }
            return found;
        }

        int leastFitting(Row row) {
            for (int step = 0; step < row.size; step++) {
                if (fits(row, step)) {
                    return step;
                }
            }
            return NONE;
        }
    }

    /** How likely it is that a CELL comes to be watched so or so; all chances are told of one whole. */
    private static final class Chances {
        private long whole;
        private final long[] now;
        private final long[] next;

        Chances() {
            now = new long[Cells.WATCHED];
            next = new long[Cells.WATCHED];
            whole = 1L;
        }

        long ofFlagged() {
            return now[Cells.FLAGGED];
        }

        /** Each touch of a CELL is not watched by some tenths; there are at most 9, so the whole stays small. */
        void spread(Row row, int cell, int tenths) {
            Arrays.fill(now, 0L);
            now[0] = 1L;
            whole = 1L;
            for (int i = 0; i < row.size; i++) {
                if (row.touchesAt(i, cell)) {
                    spreadTouch(row, i, tenths);
                    whole *= 10L;
                }
            }
        }

        private void spreadTouch(Row row, int step, int tenths) {
            Arrays.fill(next, 0L);
            for (int watched = 0; watched < Cells.WATCHED; watched++) {
                if (now[watched] != 0L) {
                    next[watched] += now[watched] * tenths;
                    int touched = Cells.touch(watched, row, step, ALL);
                    next[touched & Cells.WATCHED - 1] += now[watched] * (10 - tenths);
                }
            }
            System.arraycopy(next, 0, now, 0, Cells.WATCHED);
        }
    }
}
