import java.util.Arrays;

/**
 * Hills that grow by matters not taken up, the clerks who visit them, and what is harmed.
 * Each public method is a promise of the document; none throws, none changes what it only tells.
 */
public final class SlateHills {
    public static final int NONE = -1, BAD = -2, NO = -3, FULL = -4;

    private static final int CELLS = 20;
    private static final int HILLS = 7;
    private static final int KINDS = 6;
    /** The number that stands for no hill where one is to be visited. */
    private static final int NOBODY = 7;
    /** Hills by number and NOBODY: the width of the table of what the Governor and the wall name. */
    private static final int NAMES = 8;

    private static final int MOST_VINES = 9;
    private static final int LAST_SIZE = 59;
    private static final int LAST_DAY = 9999;
    private static final int LAST_TOLD_DAY = 99;
    private static final int SPREAD = 15;
    private static final int HARM_REACH = 2;
    private static final int SPREAD_REACH = 3;

    private static final int TEXT_BYTES = 150;
    private static final int DAYS_OF_ITEM = 9;
    private static final int UNDO_STEPS = 8;
    private static final int SEEN_ROWS = 5;
    private static final int SEEN_WIDTH = 4;
    private static final int MARK_ROWS = 6;
    private static final int MARK_WIDTH = 3;

    private static final int LONGEST_PLAN = 4;
    private static final int LONGEST_VIEW = 30;
    private static final int LONGEST_WAIT = 60;
    private static final int HOW_MANY_LOST = -2;
    private static final int NOT_SO_MANY = -5;
    private static final int BAD_ASKED = -10;
    private static final int FAULT_BASE = -10;

    private final State now = new State();
    private final State firstImage = new State();
    private final State secondImage = new State();
    private final Outlook outlook = new Outlook();
    private final Reader reader = new Reader();
    private final int[] amounts = new int[KINDS];
    private final int[] losses = new int[NAMES * NAMES];
    private long above = 0;
    private long below = 1;
    private int refusedBad = 0;
    private int refusedNo = 0;
    private int refusedFull = 0;

    public SlateHills() {
    }

    // ---- an island

    public int island(int kind) {
        if (!isKind(kind)) {
            return refuse(BAD);
        }
        int had = now.land.hills;
        now.restart(kind);
        return had;
    }

    public int clerk(int kind) {
        if (!isKind(kind)) {
            return refuse(BAD);
        }
        int was = now.land.clerkKind;
        now.land.clerkKind = kind;
        now.undoCount = 0;
        return was;
    }

    public int vines(int c, int n) {
        if (!isCell(c) || !within(n, 0, MOST_VINES)) {
            return refuse(BAD);
        }
        int had = now.land.vine[c];
        now.land.vine[c] = n;
        now.undoCount = 0;
        return had;
    }

    public int hill(int kind, int c, int size) {
        if (!isKind(kind) || !isCell(c) || !within(size, 0, LAST_SIZE)) {
            return refuse(BAD);
        }
        if (now.land.isTaken(c)) {
            return refuse(NO);
        }
        if (now.land.hills >= HILLS) {
            return refuse(FULL);
        }
        now.land.raise(kind, c, size);
        now.undoCount = 0;
        return now.land.hills - 1;
    }

    public int type(int c) {
        if (!within(c, 0, 127)) {
            return refuse(BAD);
        }
        if (reader.length >= TEXT_BYTES) {
            return refuse(FULL);
        }
        reader.append(c);
        return reader.length;
    }

    public int clear() {
        int had = reader.length;
        reader.length = 0;
        return had;
    }

    public int read() {
        if (!reader.readIsland()) {
            return FAULT_BASE - reader.start;
        }
        now.restart(0);
        now.land.copyFrom(reader.land);
        return reader.items;
    }

    // ---- days

    public int day(int visited) {
        if (!now.land.mayVisit(visited)) {
            return refuse(BAD);
        }
        if (now.land.today >= LAST_DAY) {
            return refuse(NO);
        }
        now.keepForUndo();
        return now.land.pass(visited);
    }

    public int putBack(int c, int n) {
        if (!isCell(c) || !within(n, 1, MOST_VINES)) {
            return refuse(BAD);
        }
        if (now.land.vine[c] >= MOST_VINES) {
            return refuse(NO);
        }
        now.keepForUndo();
        now.land.vine[c] = Math.min(MOST_VINES, now.land.vine[c] + n);
        return now.land.vine[c];
    }

    public int undo() {
        if (now.undoCount == 0) {
            return refuse(NO);
        }
        now.stepBack();
        return now.land.today;
    }

    public int of(int i, int what) {
        if (!now.land.isHill(i) || !within(what, 0, 4)) {
            return refuse(BAD);
        }
        Land land = now.land;
        switch (what) {
            case 0:
                return land.kind[i];
            case 1:
                return land.cell[i];
            case 2:
                return land.size[i];
            case 3:
                return growth(land.kind[i], land.size[i], land.today + 1);
            default:
                return fall(land.clerkKind, land.size[i], land.today + 1);
        }
    }

    public int has(int c) {
        if (!isCell(c)) {
            return refuse(BAD);
        }
        return now.land.vine[c];
    }

    // ---- what goes off

    public int high(int i, int m) {
        if (!now.land.isHill(i) || !within(m, 0, LONGEST_VIEW)) {
            return refuse(BAD);
        }
        Land trial = outlook.startFrom(now.land);
        trial.passAlone(m);
        return trial.size[i];
    }

    public int goes(int i) {
        if (!now.land.isHill(i)) {
            return refuse(BAD);
        }
        Land trial = outlook.startFrom(now.land);
        for (int n = 1; n <= LONGEST_WAIT; n++) {
            trial.pass(NOBODY);
            if (holds(trial.wentOff, i)) {
                return n;
            }
        }
        return NONE;
    }

    public int lost(int m) {
        if (!within(m, 0, LONGEST_VIEW)) {
            return refuse(BAD);
        }
        return outlook.startFrom(now.land).passAlone(m);
    }

    public int chain(int i) {
        if (!now.land.isHill(i)) {
            return refuse(BAD);
        }
        Land trial = outlook.startFrom(now.land);
        trial.size[i] = LAST_SIZE + 1;
        trial.settle();
        return trial.wentOff;
    }

    public int plan(int n, int k) {
        if (!within(n, 1, LONGEST_PLAN) || (k < 0 && k != HOW_MANY_LOST)) {
            refuse(BAD);
            return BAD_ASKED;
        }
        if (k >= n) {
            return NOT_SO_MANY;
        }
        outlook.findPlan(now.land, n);
        if (k == HOW_MANY_LOST) {
            return outlook.fewest;
        }
        int visited = outlook.best[k];
        return visited == NOBODY ? NONE : visited;
    }

    public int askFirst(int m, int what) {
        if (!within(m, 1, LONGEST_VIEW) || !within(what, 0, 1)) {
            return refuse(BAD);
        }
        int best = NONE;
        int fewest = NONE;
        for (int i = 0; i < now.land.hills; i++) {
            Land trial = outlook.startFrom(now.land);
            int gone = trial.pass(i);
            gone += trial.passAlone(m - 1);
            if (best == NONE || gone < fewest) {
                best = i;
                fewest = gone;
            }
        }
        return what == 0 ? best : fewest;
    }

    public int calm(int m, int what) {
        if (!within(m, 1, LONGEST_VIEW) || !within(what, 0, 1)) {
            return refuse(BAD);
        }
        int best = NONE;
        int fewest = NONE;
        for (int kind = 0; kind < KINDS; kind++) {
            Land trial = outlook.startFrom(now.land);
            trial.clerkKind = kind;
            int gone = trial.passWithTallest(m);
            if (best == NONE || gone < fewest) {
                best = kind;
                fewest = gone;
            }
        }
        return what == 0 ? best : fewest;
    }

    // ---- what it was

    public int seen(int i, int t, int x, int y) {
        if (!now.land.isHill(i) || !within(t, 0, LAST_TOLD_DAY)
                || !within(x, 0, LAST_SIZE) || !within(y, 0, 99)) {
            return refuse(BAD);
        }
        if (now.seenCount >= SEEN_ROWS) {
            return refuse(FULL);
        }
        now.addSeen(i, t, x, y);
        return now.seenCount;
    }

    public int which(int i) {
        if (!now.land.isHill(i)) {
            return refuse(BAD);
        }
        return now.matterKindsOf(i);
    }

    public int next(int i) {
        if (!now.land.isHill(i)) {
            return refuse(BAD);
        }
        return clearest(false, now.matterKindsOf(i), 5, 10, 13);
    }

    public int mark(int t, int x, int y) {
        if (!within(t, 0, LAST_TOLD_DAY) || !within(x, 0, LAST_SIZE) || !within(y, 0, 40)) {
            return refuse(BAD);
        }
        if (now.markCount >= MARK_ROWS) {
            return refuse(FULL);
        }
        now.addMark(t, x, y);
        return now.markCount;
    }

    public int forget(int what) {
        if (!within(what, 0, 1)) {
            return refuse(BAD);
        }
        int had;
        if (what == 0) {
            had = now.seenCount;
            now.seenCount = 0;
        } else {
            had = now.markCount;
            now.markCount = 0;
        }
        return had;
    }

    public int kinds() {
        return now.clerkKinds();
    }

    public int look() {
        return clearest(true, now.clerkKinds(), LAST_SIZE, 1, 5);
    }

    public int waiting(int k) {
        if (k < NONE) {
            refuse(BAD);
            return BAD_ASKED;
        }
        fillLosses();
        int found = 0;
        for (int i = 0; i < NAMES; i++) {
            for (int j = 0; j < NAMES; j++) {
                if (now.land.mayVisit(i) && now.land.mayVisit(j) && rests(i, j)) {
                    if (found == k) {
                        return 10 * i + j;
                    }
                    found++;
                }
            }
        }
        return k == NONE ? found : NOT_SO_MANY;
    }

    public int chance(int n, int x, int c) {
        if (!within(n, 0, LONGEST_PLAN) || !within(x, 0, 50) || !within(c, 0, 10)) {
            return refuse(BAD);
        }
        long whole = 1;
        for (int d = 0; d < n; d++) {
            whole *= 10;
        }
        setFraction(outlook.weighChance(now.land, n, x, c), whole);
        return 1;
    }

    public int years(int seed, int n) {
        if (!within(seed, 0, 999999) || !within(n, 0, 60)) {
            return refuse(BAD);
        }
        Land trial = outlook.startFrom(now.land);
        long x = seed;
        int gone = 0;
        for (int d = 0; d < n; d++) {
            x = (x * 1103515245L + 12345L) % 2147483648L;
            int named = (int) (x / 65536L % 8L);
            gone += trial.pass(trial.isHill(named) ? named : NOBODY);
        }
        return gone;
    }

    // ---- what there is

    public long part(int what) {
        if (!within(what, 0, 1)) {
            return refuse(BAD);
        }
        return what == 0 ? above : below;
    }

    public int image(int i) {
        if (!within(i, 0, 1)) {
            return refuse(BAD);
        }
        State kept = imageAt(i);
        kept.copyFrom(now);
        kept.isKept = true;
        return 1;
    }

    public int from(int i) {
        if (!within(i, 0, 1)) {
            return refuse(BAD);
        }
        State kept = imageAt(i);
        if (!kept.isKept) {
            return refuse(NO);
        }
        now.copyFrom(kept);
        return 1;
    }

    public int status(int what) {
        switch (what) {
            case 0:
                return refusedBad;
            case 1:
                return refusedNo;
            case 2:
                return refusedFull;
            default:
                refuse(BAD);
                return NONE;
        }
    }

    public int count(int what) {
        switch (what) {
            case 0:
                return now.land.hills;
            case 1:
                return now.land.allVines();
            case 2:
                return now.land.harm;
            case 3:
                return now.land.today;
            case 4:
                return now.land.allSizes();
            case 5:
                return now.land.clerkKind;
            case 6:
                return now.seenCount;
            case 7:
                return now.markCount;
            case 8:
                return now.undoCount;
            case 9:
                return reader.length;
            default:
                return refuse(BAD);
        }
    }

    public long digest() {
        long h = 1877;
        for (int what = 0; what <= 9; what++) {
            h = 31 * h + count(what);
        }
        Land land = now.land;
        for (int i = 0; i < land.hills; i++) {
            h = 31 * h + land.kind[i];
            h = 31 * h + land.cell[i];
            h = 31 * h + land.size[i];
        }
        h = mix(h, land.vine, CELLS);
        h = mix(h, now.seenRows, now.seenCount * SEEN_WIDTH);
        h = mix(h, now.markRows, now.markCount * MARK_WIDTH);
        h = 31 * h + above;
        return 31 * h + below;
    }

    // ---- kinds

    private static int growth(int kind, int s, int t) {
        switch (kind) {
            case 1:
                return shadeGrowth(t);
            case 2:
                return spoonGrowth(s);
            case 3:
                return 2 * shadeGrowth(t);
            case 4:
                return spoonGrowth(s) + 3;
            case 5:
                return t % 2 != 0 ? 0 : wallGrowth();
            default:
                return wallGrowth();
        }
    }

    private static int wallGrowth() {
        return 2;
    }

    private static int shadeGrowth(int t) {
        return t % 7 >= 3 ? wallGrowth() + 2 : wallGrowth();
    }

    private static int spoonGrowth(int s) {
        return wallGrowth() + s / 10;
    }

    private static int fall(int clerkKind, int s, int t) {
        switch (clerkKind) {
            case 1:
                return oldFall();
            case 2:
                return lampFall(s);
            case 3:
                return lampFall(s) + 4;
            case 4:
                return s >= 40 ? 0 : oldFall();
            case 5:
                return t % 3 == 0 ? 2 * plainFall() : plainFall();
            default:
                return plainFall();
        }
    }

    private static int plainFall() {
        return 8;
    }

    private static int oldFall() {
        return plainFall() / 2;
    }

    private static int lampFall(int s) {
        return plainFall() + s / 5;
    }

    // ---- what is asked of numbers

    private static boolean within(int v, int least, int most) {
        return v >= least && v <= most;
    }

    private static boolean isKind(int kind) {
        return within(kind, 0, KINDS - 1);
    }

    private static boolean isCell(int c) {
        return within(c, 0, CELLS - 1);
    }

    private static boolean holds(int bits, int i) {
        return (bits >> i & 1) == 1;
    }

    private static long mix(long h, int[] row, int length) {
        for (int i = 0; i < length && i < row.length; i++) {
            h = 31 * h + row[i];
        }
        return h;
    }

    private int refuse(int reason) {
        if (reason == BAD) {
            refusedBad++;
        } else if (reason == NO) {
            refusedNo++;
        } else {
            refusedFull++;
        }
        return reason;
    }

    private State imageAt(int i) {
        return i == 0 ? firstImage : secondImage;
    }

    // ---- the next slate, the next visit

    /**
     * 100 x and t by which the kinds in fit are told apart best, x in steps of a width;
     * a smaller one stays ahead of a greater one that is as good.
     */
    private int clearest(boolean ofClerks, int fit, int lastStep, int width, int lastDay) {
        int best = NONE;
        int fewest = KINDS + 1;
        for (int step = 0; step <= lastStep && fit != 0; step++) {
            for (int t = 0; t <= lastDay; t++) {
                fillAmounts(ofClerks, step * width, t);
                int most = mostAlike(fit);
                if (most < fewest) {
                    fewest = most;
                    best = 100 * step * width + t;
                }
            }
        }
        return best;
    }

    private void fillAmounts(boolean ofClerks, int x, int t) {
        for (int kind = 0; kind < KINDS; kind++) {
            amounts[kind] = ofClerks ? fall(kind, x, t) : growth(kind, x, t);
        }
    }

    /** How many of the kinds in fit, at most, share one amount. */
    private int mostAlike(int fit) {
        int most = 0;
        for (int a = 0; a < KINDS; a++) {
            int alike = 0;
            for (int b = a; b < KINDS; b++) {
                if (holds(fit, b) && amounts[b] == amounts[a]) {
                    alike++;
                }
            }
            if (holds(fit, a) && alike > most) {
                most = alike;
            }
        }
        return most;
    }

    // ---- the Governor and the wall

    private void fillLosses() {
        for (int i = 0; i < NAMES; i++) {
            for (int j = 0; j < NAMES; j++) {
                if (now.land.mayVisit(i) && now.land.mayVisit(j)) {
                    losses[NAMES * i + j] = lossBetween(i, j);
                }
            }
        }
    }

    private int lossBetween(int i, int j) {
        Land trial = outlook.startFrom(now.land);
        if (trial.isHill(j)) {
            trial.size[j] = Math.min(LAST_SIZE, trial.size[j] + 10);
        }
        return trial.pass(i);
    }

    private boolean rests(int i, int j) {
        int here = losses[NAMES * i + j];
        for (int other = 0; other < NAMES; other++) {
            if (now.land.mayVisit(other)
                    && (losses[NAMES * other + j] < here || losses[NAMES * i + other] > here)) {
                return false;
            }
        }
        return true;
    }

    // ---- the fraction

    private void setFraction(long part, long whole) {
        long a = part;
        long b = whole;
        for (int n = 0; n < 100 && b != 0; n++) {
            long left = a % b;
            a = b;
            b = left;
        }
        if (a > 0) {
            above = part / a;
            below = whole / a;
        }
    }

    /** Hills, vineyards, harm and the day: what days go by on. */
    static final class Land {
        int clerkKind = 0;
        int hills = 0;
        final int[] kind = new int[HILLS];
        final int[] cell = new int[HILLS];
        final int[] size = new int[HILLS];
        final int[] vine = new int[CELLS];
        int harm = 0;
        int today = 0;
        /** Hills (bits) that went off when the land last settled. */
        int wentOff = 0;

        Land() {
            Arrays.fill(vine, 1);
        }

        void restart(int newClerkKind) {
            clerkKind = newClerkKind;
            hills = 0;
            Arrays.fill(vine, 1);
            harm = 0;
            today = 0;
        }

        void copyFrom(Land other) {
            clerkKind = other.clerkKind;
            hills = other.hills;
            System.arraycopy(other.kind, 0, kind, 0, HILLS);
            System.arraycopy(other.cell, 0, cell, 0, HILLS);
            copyDaysFrom(other);
        }

        /** Copies what a day may change, of a land with the same hills and clerk. */
        void copyDaysFrom(Land other) {
            System.arraycopy(other.size, 0, size, 0, HILLS);
            System.arraycopy(other.vine, 0, vine, 0, CELLS);
            harm = other.harm;
            today = other.today;
        }

        boolean isHill(int i) {
            return within(i, 0, hills - 1);
        }

        boolean mayVisit(int i) {
            return isHill(i) || i == NOBODY;
        }

        boolean isTaken(int c) {
            for (int i = 0; i < hills; i++) {
                if (cell[i] == c) {
                    return true;
                }
            }
            return false;
        }

        void raise(int newKind, int c, int newSize) {
            if (hills < HILLS) {
                kind[hills] = newKind;
                cell[hills] = c;
                size[hills] = newSize;
                hills++;
            }
        }

        int allVines() {
            int sum = 0;
            for (int c = 0; c < CELLS; c++) {
                sum += vine[c];
            }
            return sum;
        }

        int allSizes() {
            int sum = 0;
            for (int i = 0; i < hills; i++) {
                sum += size[i];
            }
            return sum;
        }

        /** The hill of most size, of like ones the least; NOBODY without hills. */
        int tallest() {
            int best = NOBODY;
            int most = -1;
            for (int i = 0; i < hills; i++) {
                if (size[i] > most) {
                    most = size[i];
                    best = i;
                }
            }
            return best;
        }

        /** A day goes by; answers what is lost on it. */
        int pass(int visited) {
            today++;
            for (int i = 0; i < hills; i++) {
                if (i == visited) {
                    size[i] = Math.max(0, size[i] - fall(clerkKind, size[i], today));
                } else {
                    size[i] += growth(kind[i], size[i], today);
                }
            }
            return settle();
        }

        /** Days go by without a visit; answers what is lost on them. */
        int passAlone(int days) {
            int gone = 0;
            for (int d = 0; d < days; d++) {
                gone += pass(NOBODY);
            }
            return gone;
        }

        int passWithTallest(int days) {
            int gone = 0;
            for (int d = 0; d < days; d++) {
                gone += pass(tallest());
            }
            return gone;
        }

        /** Lets hills go off until none has to; answers what is lost by that. */
        int settle() {
            wentOff = 0;
            int gone = 0;
            // a hill goes off once at most before the land rests, so as many turns as hills are enough
            for (int turn = 0; turn < hills; turn++) {
                int i = firstOver();
                if (i == NONE) {
                    break;
                }
                size[i] = 0;
                wentOff |= 1 << i;
                gone += loseAround(cell[i]);
                spreadAround(cell[i]);
            }
            harm += gone;
            return gone;
        }

        private int firstOver() {
            for (int i = 0; i < hills; i++) {
                if (size[i] > LAST_SIZE) {
                    return i;
                }
            }
            return NONE;
        }

        private int loseAround(int middle) {
            int gone = 0;
            int last = Math.min(CELLS - 1, middle + HARM_REACH);
            for (int c = Math.max(0, middle - HARM_REACH); c <= last; c++) {
                gone += vine[c];
                vine[c] = 0;
            }
            return gone;
        }

        private void spreadAround(int middle) {
            for (int i = 0; i < hills; i++) {
                if (!holds(wentOff, i) && Math.abs(cell[i] - middle) <= SPREAD_REACH) {
                    size[i] += SPREAD;
                }
            }
        }
    }

    /** All that an image keeps: the land, what was seen and marked, what may be undone. */
    static final class State {
        /** Where parts stand in a step that may be undone: sizes first, then vineyards, harm, the day. */
        private static final int VINES_AT = HILLS;
        private static final int HARM_AT = HILLS + CELLS;
        private static final int TODAY_AT = HARM_AT + 1;
        private static final int STEP_WIDTH = TODAY_AT + 1;

        final Land land = new Land();
        final int[] seenRows = new int[SEEN_ROWS * SEEN_WIDTH];
        int seenCount = 0;
        final int[] markRows = new int[MARK_ROWS * MARK_WIDTH];
        int markCount = 0;
        /** A ring of steps: undoNext is the place of the step to be kept next. */
        private final int[] undoSteps = new int[UNDO_STEPS * STEP_WIDTH];
        private int undoNext = 0;
        int undoCount = 0;
        boolean isKept = false;

        void restart(int newClerkKind) {
            land.restart(newClerkKind);
            seenCount = 0;
            markCount = 0;
            undoCount = 0;
        }

        void copyFrom(State other) {
            land.copyFrom(other.land);
            System.arraycopy(other.seenRows, 0, seenRows, 0, SEEN_ROWS * SEEN_WIDTH);
            seenCount = other.seenCount;
            System.arraycopy(other.markRows, 0, markRows, 0, MARK_ROWS * MARK_WIDTH);
            markCount = other.markCount;
            System.arraycopy(other.undoSteps, 0, undoSteps, 0, UNDO_STEPS * STEP_WIDTH);
            undoNext = other.undoNext;
            undoCount = other.undoCount;
        }

        void keepForUndo() {
            int at = undoNext * STEP_WIDTH;
            System.arraycopy(land.size, 0, undoSteps, at, HILLS);
            System.arraycopy(land.vine, 0, undoSteps, at + VINES_AT, CELLS);
            undoSteps[at + HARM_AT] = land.harm;
            undoSteps[at + TODAY_AT] = land.today;
            undoNext = (undoNext + 1) % UNDO_STEPS;
            undoCount = Math.min(UNDO_STEPS, undoCount + 1);
        }

        void stepBack() {
            if (undoCount > 0) {
                undoCount--;
                undoNext = (undoNext + UNDO_STEPS - 1) % UNDO_STEPS;
                int at = undoNext * STEP_WIDTH;
                System.arraycopy(undoSteps, at, land.size, 0, HILLS);
                System.arraycopy(undoSteps, at + VINES_AT, land.vine, 0, CELLS);
                land.harm = undoSteps[at + HARM_AT];
                land.today = undoSteps[at + TODAY_AT];
            }
        }

        void addSeen(int i, int t, int x, int y) {
            if (seenCount < SEEN_ROWS) {
                int at = seenCount * SEEN_WIDTH;
                seenRows[at] = i;
                seenRows[at + 1] = t;
                seenRows[at + 2] = x;
                seenRows[at + 3] = y;
                seenCount++;
            }
        }

        void addMark(int t, int x, int y) {
            if (markCount < MARK_ROWS) {
                int at = markCount * MARK_WIDTH;
                markRows[at] = t;
                markRows[at + 1] = x;
                markRows[at + 2] = y;
                markCount++;
            }
        }

        /** Kinds of matters (bits) by which all that was seen of a hill is so. */
        int matterKindsOf(int i) {
            int fit = 0;
            for (int kind = 0; kind < KINDS; kind++) {
                if (matterFits(kind, i)) {
                    fit |= 1 << kind;
                }
            }
            return fit;
        }

        private boolean matterFits(int kind, int i) {
            for (int row = 0; row < seenCount && row < SEEN_ROWS; row++) {
                int at = row * SEEN_WIDTH;
                int t = seenRows[at + 1];
                int x = seenRows[at + 2];
                if (seenRows[at] == i && seenRows[at + 3] != x + growth(kind, x, t + 1)) {
                    return false;
                }
            }
            return true;
        }

        /** Kinds of clerks (bits) by which all marks are so. */
        int clerkKinds() {
            int fit = 0;
            for (int kind = 0; kind < KINDS; kind++) {
                if (clerkFits(kind)) {
                    fit |= 1 << kind;
                }
            }
            return fit;
        }

        private boolean clerkFits(int kind) {
            for (int row = 0; row < markCount && row < MARK_ROWS; row++) {
                int at = row * MARK_WIDTH;
                if (markRows[at + 2] != fall(kind, markRows[at + 1], markRows[at])) {
                    return false;
                }
            }
            return true;
        }
    }

    /** Trials of days to come, on lands of their own, made once and used again. */
    static final class Outlook {
        /** More than can be lost, so that the first row tried is kept. */
        private static final int ABOVE_ANY = 1000000;

        /** lands[d] is the land behind d of the days that are tried. */
        private final Land[] lands = new Land[LONGEST_PLAN + 1];
        private final int[] row = new int[LONGEST_PLAN];
        final int[] best = new int[LONGEST_PLAN];
        int fewest = 0;
        private int leastSizes = 0;
        private int days = 0;

        Outlook() {
            for (int d = 0; d <= LONGEST_PLAN; d++) {
                lands[d] = new Land();
            }
        }

        /** A copy of a land on which days may be tried. */
        Land startFrom(Land land) {
            lands[0].copyFrom(land);
            return lands[0];
        }

        private void startAllFrom(Land land, int newDays) {
            for (int d = 0; d <= LONGEST_PLAN; d++) {
                lands[d].copyFrom(land);
            }
            days = Math.min(newDays, LONGEST_PLAN);
        }

        void findPlan(Land land, int newDays) {
            startAllFrom(land, newDays);
            fewest = ABOVE_ANY;
            tryRows(0, 0);
        }

        /** Tries all rows from a depth on, in rising order, so that the first of like rows stays. */
        private void tryRows(int depth, int gone) {
            if (gone > fewest) {
                return;
            }
            if (depth >= days) {
                keepIfBetter(gone, lands[days].allSizes());
                return;
            }
            Land here = lands[depth];
            Land then = lands[depth + 1];
            for (int i = 0; i <= NOBODY; i++) {
                if (here.mayVisit(i)) {
                    then.copyDaysFrom(here);
                    row[depth] = i;
                    tryRows(depth + 1, gone + then.pass(i));
                }
            }
        }

        private void keepIfBetter(int gone, int sizes) {
            if (gone < fewest || (gone == fewest && sizes < leastSizes)) {
                fewest = gone;
                leastSizes = sizes;
                System.arraycopy(row, 0, best, 0, LONGEST_PLAN);
            }
        }

        /** Of 10 to the days: how many parts lead to x or more being lost. */
        long weighChance(Land land, int newDays, int x, int c) {
            startAllFrom(land, newDays);
            return weigh(0, x, c);
        }

        private long weigh(int depth, int left, int c) {
            if (depth >= days) {
                return left <= 0 ? 1 : 0;
            }
            Land here = lands[depth];
            Land then = lands[depth + 1];
            then.copyDaysFrom(here);
            int gone = then.pass(here.tallest());
            long sum = c * weigh(depth + 1, left - gone, c);
            then.copyDaysFrom(here);
            gone = then.pass(NOBODY);
            return sum + (10 - c) * weigh(depth + 1, left - gone, c);
        }
    }

    /** The text, and the island it tells; where it tells none, start is the fault. */
    static final class Reader {
        private static final int END = 0, WORD = 1, NUMBER = 2, SEMICOLON = 3, WRONG = 4;
        private static final int ISLAND = 0, VINES = 1, HILL = 2, DAY = 3;

        private final int[] text = new int[TEXT_BYTES];
        int length = 0;
        private int at = 0;
        private int token = END;
        /** Which word, or the number. */
        private int value = 0;
        /** The place of the token's first byte; the text's length at its end. */
        int start = 0;
        int items = 0;
        final Land land = new Land();

        void append(int b) {
            if (length < TEXT_BYTES) {
                text[length] = b;
                length++;
            }
        }

        boolean readIsland() {
            at = 0;
            items = 0;
            if (!readClerk()) {
                return false;
            }
            step();
            // an item takes a byte or more, so the length bounds the items
            for (int n = 0; n < length && token == WORD; n++) {
                boolean stands = false;
                if (value == VINES) {
                    stands = readVines();
                } else if (value == HILL) {
                    stands = readHill();
                } else if (value == DAY) {
                    stands = readDays();
                }
                if (!stands) {
                    return false;
                }
                step();
            }
            return token == END;
        }

        private boolean readClerk() {
            step();
            if (token != WORD || value != ISLAND || !stepToNumber(KINDS - 1)) {
                return false;
            }
            land.restart(value);
            return stepToEndOfItem();
        }

        private boolean readVines() {
            if (!stepToNumber(CELLS - 1)) {
                return false;
            }
            int c = value;
            if (!stepToNumber(MOST_VINES)) {
                return false;
            }
            land.vine[c] = value;
            return stepToEndOfItem();
        }

        private boolean readHill() {
            if (land.hills >= HILLS || !stepToNumber(KINDS - 1)) {
                return false;
            }
            int kind = value;
            if (!stepToNumber(CELLS - 1) || land.isTaken(value)) {
                return false;
            }
            int c = value;
            if (!stepToNumber(LAST_SIZE)) {
                return false;
            }
            land.raise(kind, c, value);
            return stepToEndOfItem();
        }

        private boolean readDays() {
            step();
            int days = 0;
            while (days < DAYS_OF_ITEM && token == NUMBER && land.mayVisit(value)) {
                land.pass(value);
                days++;
                step();
            }
            return days > 0 && endsItem();
        }

        private boolean stepToNumber(int most) {
            step();
            return token == NUMBER && value <= most;
        }

        private boolean stepToEndOfItem() {
            step();
            return endsItem();
        }

        private boolean endsItem() {
            if (token != SEMICOLON) {
                return false;
            }
            items++;
            return true;
        }

        private void step() {
            while (at < length && text[at] == ' ') {
                at++;
            }
            start = at;
            if (at >= length) {
                token = END;
            } else if (isLetter(text[at])) {
                takeWord();
            } else if (isFigure(text[at])) {
                takeNumber();
            } else {
                token = text[at] == ';' ? SEMICOLON : WRONG;
                at++;
            }
        }

        private void takeWord() {
            while (at < length && isLetter(text[at])) {
                at++;
            }
            token = WORD;
            if (spells("island")) {
                value = ISLAND;
            } else if (spells("vines")) {
                value = VINES;
            } else if (spells("hill")) {
                value = HILL;
            } else if (spells("day")) {
                value = DAY;
            } else {
                token = WRONG;
            }
        }

        private void takeNumber() {
            value = 0;
            while (at < length && isFigure(text[at])) {
                if (at - start < 2) {
                    value = 10 * value + text[at] - '0';
                }
                at++;
            }
            token = at - start <= 2 ? NUMBER : WRONG;
        }

        private boolean spells(String word) {
            if (at - start != word.length()) {
                return false;
            }
            for (int i = 0; i < word.length(); i++) {
                if (text[start + i] != word.charAt(i)) {
                    return false;
                }
            }
            return true;
        }

        private static boolean isLetter(int b) {
            return b >= 'a' && b <= 'z';
        }

        private static boolean isFigure(int b) {
            return b >= '0' && b <= '9';
        }
    }
}
