import java.util.Arrays;

/** Widening cracks: water through a rock that it eats away. */
public final class WideningCracks {
    public static final int UNKNOWN = -1, OUTSIDE = -2, STATE = -3, FULL = -4, NONE = -9;
    public static final long LOST = Long.MIN_VALUE;

    private static final int JOINTS = 6, CRACKS = 12, KINDS = 5, CORES = 4, LANES = 4, CELLS = 24, KEPT = 8;
    private static final int TOP_HEAD = 100, TOP_WIDTH = 12, TOP_NUMBER = 12, TOP_RATE = 100;
    private static final int TOP_STEPS = 50, TOP_RUN = 200, FIRST_RATE = 10;
    private static final int STORE_OF_A_WIDTH = 1000;
    private static final int CRACK = 0, WIDE = 1, CLOGGING = 2, HARD = 3, TUBE = 4;
    private static final int BYTES = 0, SHORTS = 1, INTS = 2;
    private static final int NO_FAULT = 0, NULL = 1, CAST = 2, INDEX = 3, SIZE = 4;
    private static final int FAULT_BASE = -10;

    private final Rock rock;
    private final Water water;
    private final Ways paths;
    private final Keeps keeps;
    private final Core[] cores;
    private final Trace traceLeft;
    private final long[] meals;
    private int rateNow;
    private int lastFault;

    public WideningCracks() {
        rock = new Rock();
        water = new Water(rock);
        paths = new Ways(rock);
        keeps = new Keeps();
        cores = new Core[CORES];
        for (int k = 0; k < CORES; k++) {
            cores[k] = new Core();
        }
        traceLeft = new Trace();
        meals = new long[CRACKS];
        rateNow = FIRST_RATE;
        lastFault = NO_FAULT;
    }

    // ---- 1 the rock

    public int joint() {
        if (rock.jointCount >= JOINTS) {
            return FULL;
        }
        return rock.addJoint();
    }

    public int hold(int joint, int head) {
        if (!rock.hasJoint(joint)) {
            return UNKNOWN;
        }
        if (!isWithin(head, 0, TOP_HEAD)) {
            return OUTSIDE;
        }
        rock.setHeld(joint, true, head);
        return 1;
    }

    public int free(int joint) {
        if (!rock.hasJoint(joint)) {
            return UNKNOWN;
        }
        if (!rock.held[joint]) {
            return 0;
        }
        rock.setHeld(joint, false, 0);
        return 1;
    }

    public int crack(int a, int b, int kind, int width, int number) {
        if (!rock.hasJoint(a) || !rock.hasJoint(b)) {
            return UNKNOWN;
        }
        if (a == b || !isKind(kind) || !isWithin(width, 0, TOP_WIDTH) || !isWithin(number, 1, TOP_NUMBER)) {
            return OUTSIDE;
        }
        if (rock.crackCount >= CRACKS) {
            return FULL;
        }
        return rock.addCrack(newCrack(a, b, kind, width, number));
    }

    public int widths(int core, int lane, int i, int n, int c) {
        lastFault = NO_FAULT;
        if (!isCore(core) || !rock.hasCrack(c)) {
            return UNKNOWN;
        }
        if (!isLane(lane)) {
            return OUTSIDE;
        }
        Core row = cores[core];
        if (row.isOfAnotherLane(lane)) {
            return faulted(CAST);
        }
        if (!row.isThere) {
            return faulted(NULL);
        }
        if (n < 0) {
            return faulted(SIZE);
        }
        if (!row.hasCells(i, n) || n > rock.crackCount - c) {
            return faulted(INDEX);
        }
        if (!row.areWithin(i, n, 0, TOP_WIDTH)) {
            return OUTSIDE;
        }
        for (int done = 0; done < n; done++) {
            rock.setWidth(c + done, (int) row.cells[i + done]);
        }
        return n;
    }

    public int width(int c, int w) {
        if (!rock.hasCrack(c)) {
            return UNKNOWN;
        }
        if (!isWithin(w, 0, TOP_WIDTH)) {
            return OUTSIDE;
        }
        int before = rock.cracks[c].width;
        rock.setWidth(c, w);
        return before;
    }

    public int about(int c, int what) {
        if (!rock.hasCrack(c)) {
            return UNKNOWN;
        }
        Crack one = rock.cracks[c];
        switch (what) {
            case 0:
                return one.from;
            case 1:
                return one.to;
            case 2:
                return one.kind();
            case 3:
                return one.width;
            case 4:
                return one.number;
            case 5:
                return one.store;
            case 6:
                return one.lets();
            default:
                return OUTSIDE;
        }
    }

    public int at(int joint, int what) {
        if (!rock.hasJoint(joint)) {
            return UNKNOWN;
        }
        switch (what) {
            case 0:
                return rock.held[joint] ? 1 : 0;
            case 1:
                return rock.held[joint] ? rock.heads[joint] : NONE;
            case 2:
                return water.isDry(joint) ? 1 : 0;
            case 3:
                return rock.openAt(joint);
            default:
                return OUTSIDE;
        }
    }

    public long head(int joint, int which) {
        if (!rock.hasJoint(joint) || !isPart(which) || water.isDry(joint)) {
            return LOST;
        }
        return water.headPart(joint, which);
    }

    public long flow(int c, int which) {
        if (!rock.hasCrack(c) || !isPart(which)) {
            return LOST;
        }
        return water.flowPart(c, which);
    }

    public long in(int joint, int which) {
        if (!rock.hasJoint(joint) || !isPart(which) || !rock.held[joint]) {
            return LOST;
        }
        return water.inflowPart(joint, which);
    }

    public long work(int which) {
        if (!isPart(which)) {
            return LOST;
        }
        return water.workPart(which);
    }

    // ---- 2 steps, ways

    public int rate(int r) {
        if (!isWithin(r, 1, TOP_RATE)) {
            return OUTSIDE;
        }
        int before = rateNow;
        rateNow = r;
        return before;
    }

    public int step(int n) {
        if (!isWithin(n, 0, TOP_STEPS)) {
            return OUTSIDE;
        }
        int moved = 0;
        for (int done = 0; done < n; done++) {
            moved += oneStep();
        }
        return moved;
    }

    public int run(int t) {
        if (!isLeastWidth(t)) {
            return OUTSIDE;
        }
        boolean isThrough = paths.isOne(t);
        int done = 0;
        while (!isThrough && done < TOP_RUN) {
            int moved = oneStep();
            done++;
            // Where no width moved, no way can have opened.
            isThrough = moved > 0 && paths.isOne(t);
        }
        return isThrough ? done : NONE;
    }

    public int ways(int t) {
        if (!isLeastWidth(t)) {
            return OUTSIDE;
        }
        return paths.count(t);
    }

    public int through(int c, int t) {
        if (!rock.hasCrack(c)) {
            return UNKNOWN;
        }
        if (!isLeastWidth(t)) {
            return OUTSIDE;
        }
        return paths.countOver(c, t) > 0 ? 1 : 0;
    }

    public int open() {
        for (int t = TOP_WIDTH; t > 0; t--) {
            if (paths.isOne(t)) {
                return t;
            }
        }
        return 0;
    }

    public long eats(int c) {
        if (!rock.hasCrack(c)) {
            return LOST;
        }
        return mealIn(c, rock.stepCount + 1);
    }

    public int told(int what) {
        switch (what) {
            case 0:
                return rock.jointCount;
            case 1:
                return rock.crackCount;
            case 2:
                return rock.stepCount;
            case 3:
                return rateNow;
            case 4:
                return Integer.bitCount(rock.heldOnes());
            case 5:
                return water.dryCount();
            case 6:
                return rock.openCount();
            case 7:
                return rock.widthSum();
            default:
                return OUTSIDE;
        }
    }

    public int keep() {
        keeps.push(rock);
        return keeps.count;
    }

    public int back() {
        if (keeps.count == 0) {
            return STATE;
        }
        keeps.pop(rock);
        return keeps.count;
    }

    // ---- 3 cores, parts

    public int core(int k, int lane, int n) {
        lastFault = NO_FAULT;
        if (!isCore(k)) {
            return UNKNOWN;
        }
        if (!isLane(lane) || n > CELLS) {
            return OUTSIDE;
        }
        if (n < 0) {
            return faulted(SIZE);
        }
        cores[k].renew(lane, n);
        return 1;
    }

    public int lose(int k) {
        if (!isCore(k)) {
            return UNKNOWN;
        }
        if (!cores[k].isThere) {
            return 0;
        }
        cores[k].isThere = false;
        return 1;
    }

    public int put(int k, int i, long v) {
        lastFault = NO_FAULT;
        if (!isCore(k)) {
            return UNKNOWN;
        }
        Core row = cores[k];
        if (!row.isThere) {
            return faulted(NULL);
        }
        if (!row.hasCells(i, 1)) {
            return faulted(INDEX);
        }
        row.cells[i] = row.cut(v);
        return 1;
    }

    public long cell(int k, int i, int lane) {
        lastFault = NO_FAULT;
        if (!isCore(k) || !isLane(lane)) {
            return LOST;
        }
        Core row = cores[k];
        if (row.isOfAnotherLane(lane)) {
            return lost(CAST);
        }
        if (!row.isThere) {
            return lost(NULL);
        }
        if (!row.hasCells(i, 1)) {
            return lost(INDEX);
        }
        return row.cells[i];
    }

    public int copy(int k, int i, int other, int j, int n) {
        lastFault = NO_FAULT;
        if (!isCore(k) || !isCore(other)) {
            return UNKNOWN;
        }
        Core source = cores[k];
        Core target = cores[other];
        if (!source.isThere || !target.isThere) {
            return faulted(NULL);
        }
        if (source.lane != target.lane) {
            return faulted(CAST);
        }
        if (n < 0 || !source.hasCells(i, n) || !target.hasCells(j, n)) {
            return faulted(INDEX);
        }
        System.arraycopy(source.cells, i, target.cells, j, n);
        return n;
    }

    public int tell(int c) {
        if (!rock.hasCrack(c)) {
            return UNKNOWN;
        }
        return rock.cracks[c].telling(traceLeft);
    }

    public int judge(int c) {
        if (!rock.hasCrack(c)) {
            return UNKNOWN;
        }
        return rock.cracks[c].judgement(traceLeft);
    }

    public int as(int c, int kind) {
        lastFault = NO_FAULT;
        if (!rock.hasCrack(c)) {
            return UNKNOWN;
        }
        if (!isKind(kind)) {
            return OUTSIDE;
        }
        if (!isOfKind(rock.cracks[c], kind)) {
            return faulted(CAST);
        }
        return 1;
    }

    public int trace() {
        return traceLeft.value;
    }

    public int fault() {
        return lastFault;
    }

    // ---- what the calls share

    private static boolean isWithin(long value, int least, int most) {
        return value >= least && value <= most;
    }

    private static boolean isKind(int kind) {
        return isWithin(kind, 0, KINDS - 1);
    }

    private static boolean isLane(int lane) {
        return isWithin(lane, 0, LANES - 1);
    }

    private static boolean isCore(int k) {
        return isWithin(k, 0, CORES - 1);
    }

    private static boolean isPart(int which) {
        return isWithin(which, 0, 1);
    }

    private static boolean isLeastWidth(int t) {
        return isWithin(t, 1, TOP_WIDTH);
    }

    private int faulted(int kindOfFault) {
        lastFault = kindOfFault;
        return FAULT_BASE - kindOfFault;
    }

    private long lost(int kindOfFault) {
        lastFault = kindOfFault;
        return LOST;
    }

    private static Crack newCrack(int a, int b, int kind, int width, int number) {
        switch (kind) {
            case WIDE:
                return new Wide(a, b, width, number);
            case CLOGGING:
                return new Clogging(a, b, width, number);
            case HARD:
                return new Hard(a, b, width, number);
            case TUBE:
                return new Tube(a, b, width, number);
            default:
                return new Crack(a, b, width, number);
        }
    }

    private static boolean isOfKind(Crack one, int kind) {
        switch (kind) {
            case WIDE:
                return one instanceof Wide;
            case CLOGGING:
                return one instanceof Clogging;
            case HARD:
                return one instanceof Hard;
            case TUBE:
                return one instanceof Tube;
            default:
                return kind == CRACK;
        }
    }

    private long mealIn(int c, int stepNumber) {
        return rock.cracks[c].eatsIn(stepNumber) ? water.amount(c, rateNow) : 0;
    }

    /** Does one step; gives how many widths became others. */
    private int oneStep() {
        int stepNumber = rock.stepCount + 1;
        // All meals come first: a width that moves must not move the water of the same step.
        for (int c = 0; c < rock.crackCount; c++) {
            meals[c] = mealIn(c, stepNumber);
        }
        int moved = 0;
        for (int c = 0; c < rock.crackCount; c++) {
            if (rock.cracks[c].eatsIn(stepNumber) && rock.cracks[c].takeIn(meals[c])) {
                moved++;
            }
        }
        if (moved > 0) {
            rock.changes++;
        }
        rock.stepCount = stepNumber;
        return moved;
    }

    private static long greatestDivisor(long a, long b) {
        // Two longs need no more than 92 turns.
        for (int turn = 0; b != 0 && turn < 100; turn++) {
            long rest = a % b;
            a = b;
            b = rest;
        }
        return a;
    }

    /** The upper (0) or lower (1) number of a fraction in lowest terms; the lower one given is above 0. */
    private static long partOf(long upper, long lower, int which) {
        long divisor = greatestDivisor(Math.abs(upper), lower);
        if (divisor < 1) {
            return LOST;
        }
        return (which == 0 ? upper : lower) / divisor;
    }

    /** What bodies leave as they begin. */
    private static final class Trace {
        int value;

        void leave(int body) {
            value = 31 * value + body;
        }
    }

    /** A crack of kind 0; the kinds below say only what they do in another way. */
    private static class Crack {
        final int from;
        final int to;
        final int number;
        int width;
        int store;

        Crack(int from, int to, int width, int number) {
            this.from = from;
            this.to = to;
            this.width = width;
            this.number = number;
        }

        int kind() {
            return CRACK;
        }

        int lets() {
            return width;
        }

        boolean eatsIn(int stepNumber) {
            return true;
        }

        /** How far its width can go in the way of its kind. */
        int room() {
            return TOP_WIDTH - width;
        }

        int widthAfter(int moves) {
            return width + moves;
        }

        int telling(Trace trace) {
            return plainTelling(trace);
        }

        int judgement(Trace trace) {
            trace.leave(5);
            return 100 + kind();
        }

        /** Kept apart from telling, since a tube leaves out the body of wide ones above it. */
        final int plainTelling(Trace trace) {
            trace.leave(1);
            return width;
        }

        /** Eats an amount; gives whether the width became another one. */
        final boolean takeIn(long amount) {
            long all = store + amount;
            int moves = (int) Math.min(all / STORE_OF_A_WIDTH, room());
            width = widthAfter(moves);
            store = room() == 0 ? 0 : (int) (all % STORE_OF_A_WIDTH);
            return moves > 0;
        }

        final boolean isAt(int joint) {
            return from == joint || to == joint;
        }

        final int otherEnd(int joint) {
            return from == joint ? to : from;
        }
    }

    private static class Wide extends Crack {
        Wide(int from, int to, int width, int number) {
            super(from, to, width, number);
        }

        int kind() {
            return WIDE;
        }

        int lets() {
            return width * width;
        }

        int telling(Trace trace) {
            trace.leave(2);
            return 10 * plainTelling(trace);
        }
    }

    private static final class Clogging extends Crack {
        Clogging(int from, int to, int width, int number) {
            super(from, to, width, number);
        }

        int kind() {
            return CLOGGING;
        }

        int room() {
            return width;
        }

        int widthAfter(int moves) {
            return width - moves;
        }

        int telling(Trace trace) {
            trace.leave(3);
            return plainTelling(trace) - 20;
        }
    }

    private static class Hard extends Wide {
        Hard(int from, int to, int width, int number) {
            super(from, to, width, number);
        }

        int kind() {
            return HARD;
        }

        boolean eatsIn(int stepNumber) {
            return number > 0 && stepNumber % number == 0;
        }

        int judgement(Trace trace) {
            trace.leave(6);
            return number;
        }
    }

    private static final class Tube extends Hard {
        Tube(int from, int to, int width, int number) {
            super(from, to, width, number);
        }

        int kind() {
            return TUBE;
        }

        int room() {
            return Math.max(0, number - width);
        }

        int telling(Trace trace) {
            trace.leave(4);
            return plainTelling(trace) + number;
        }
    }

    /** Joints and cracks; sets of joints are ints with a bit for each joint. */
    private static final class Rock {
        final boolean[] held = new boolean[JOINTS];
        final int[] heads = new int[JOINTS];
        final Crack[] cracks = new Crack[CRACKS];
        int jointCount;
        int crackCount;
        int stepCount;
        /** Counts what may move the water, so that heads are reckoned anew only then. */
        int changes;

        boolean hasJoint(int joint) {
            return joint >= 0 && joint < jointCount;
        }

        boolean hasCrack(int c) {
            return c >= 0 && c < crackCount;
        }

        int addJoint() {
            changes++;
            jointCount++;
            return jointCount - 1;
        }

        int addCrack(Crack one) {
            cracks[crackCount] = one;
            changes++;
            crackCount++;
            return crackCount - 1;
        }

        void setHeld(int joint, boolean isHeld, int head) {
            held[joint] = isHeld;
            heads[joint] = head;
            changes++;
        }

        void setWidth(int c, int width) {
            cracks[c].width = width;
            cracks[c].store = 0;
            changes++;
        }

        int openAt(int joint) {
            int count = 0;
            for (int c = 0; c < crackCount; c++) {
                if (cracks[c].width > 0 && cracks[c].isAt(joint)) {
                    count++;
                }
            }
            return count;
        }

        int openCount() {
            int count = 0;
            for (int c = 0; c < crackCount; c++) {
                if (cracks[c].width > 0) {
                    count++;
                }
            }
            return count;
        }

        int widthSum() {
            int sum = 0;
            for (int c = 0; c < crackCount; c++) {
                sum += cracks[c].width;
            }
            return sum;
        }

        int heldOnes() {
            int ones = 0;
            for (int j = 0; j < jointCount; j++) {
                if (held[j]) {
                    ones |= 1 << j;
                }
            }
            return ones;
        }

        /** The held joints whose head times sign is greatest: with 1 the highest, with -1 the lowest. */
        int heldMost(int sign) {
            int most = -TOP_HEAD - 1;
            int ones = 0;
            for (int j = 0; j < jointCount; j++) {
                int signed = sign * heads[j];
                if (held[j] && signed > most) {
                    most = signed;
                    ones = 0;
                }
                if (held[j] && signed == most) {
                    ones |= 1 << j;
                }
            }
            return ones;
        }

        /** The joints to which cracks at least so wide lead from some. */
        int reachedFrom(int ones, int leastWidth) {
            boolean grew = true;
            for (int pass = 0; grew && pass < JOINTS; pass++) {
                int before = ones;
                for (int c = 0; c < crackCount; c++) {
                    int ends = 1 << cracks[c].from | 1 << cracks[c].to;
                    if (cracks[c].width >= leastWidth && (ones & ends) != 0) {
                        ones |= ends;
                    }
                }
                grew = ones != before;
            }
            return ones;
        }
    }

    /**
     * Heads and flows, as fractions over one lower number.
     *
     * <p>There is a row of numbers for each joint: what it gets is what it gives; or its head as held; or just 0, where
     * it is dry or not there. They are solved by determinants without dividing, so that sums that wrap on the way still
     * end exact: the determinant is below 2^45, the upper numbers of heads are below 2^52, those of flows and the work
     * below 2^61.
     */
    private static final class Water {
        private static final int ALL = (1 << JOINTS) - 1;

        final Rock rock;
        final long[][] rows = new long[JOINTS][JOINTS + 1];
        final long[] minors = new long[2 * (ALL + 1)];
        final long[] headUppers = new long[JOINTS];
        final long[] flowUppers = new long[CRACKS];
        long lower = 1;
        int wet;
        /** The joints with an equation: those that are wet and free. */
        int balanced;
        int changesSeen = -1;

        Water(Rock rock) {
            this.rock = rock;
        }

        boolean isDry(int joint) {
            settle();
            return (wet >> joint & 1) == 0;
        }

        int dryCount() {
            settle();
            return rock.jointCount - Integer.bitCount(wet);
        }

        long headPart(int joint, int which) {
            settle();
            return partOf(headUppers[joint], lower, which);
        }

        long flowPart(int c, int which) {
            settle();
            return partOf(flowUppers[c], lower, which);
        }

        long inflowPart(int joint, int which) {
            settle();
            return partOf(inflowUpper(joint), lower, which);
        }

        /**
         * Free joints get as much as they give, so the work is also the sum over held joints of head times what goes
         * in; that needs no square of the lower number, which a long could not hold.
         */
        long workPart(int which) {
            settle();
            long upper = 0;
            for (int j = 0; j < rock.jointCount; j++) {
                if (rock.held[j]) {
                    upper += rock.heads[j] * inflowUpper(j);
                }
            }
            return partOf(upper, lower, which);
        }

        /** The amount of a flow times a rate, cut to a whole number. */
        long amount(int c, int rate) {
            settle();
            return lower > 0 ? Math.abs(flowUppers[c]) * rate / lower : 0;
        }

        private long inflowUpper(int joint) {
            long sum = 0;
            for (int c = 0; c < rock.crackCount; c++) {
                if (rock.cracks[c].from == joint) {
                    sum += flowUppers[c];
                }
                if (rock.cracks[c].to == joint) {
                    sum -= flowUppers[c];
                }
            }
            return sum;
        }

        private void settle() {
            if (changesSeen == rock.changes) {
                return;
            }
            changesSeen = rock.changes;
            int heldOnes = rock.heldOnes();
            wet = rock.reachedFrom(heldOnes, 1);
            balanced = wet & ~heldOnes;
            writeRows();
            solveRows();
            reckonFlows();
        }

        private void writeRows() {
            for (int j = 0; j < JOINTS; j++) {
                Arrays.fill(rows[j], 0);
                if ((balanced >> j & 1) == 0) {
                    rows[j][j] = 1;
                    rows[j][JOINTS] = rock.held[j] ? rock.heads[j] : 0;
                }
            }
            for (int c = 0; c < rock.crackCount; c++) {
                Crack one = rock.cracks[c];
                writeCrack(one.from, one.to, one.lets());
                writeCrack(one.to, one.from, one.lets());
            }
        }

        private void writeCrack(int joint, int other, int lets) {
            if ((balanced >> joint & 1) == 1) {
                rows[joint][joint] += lets;
                rows[joint][other] -= lets;
            }
        }

        /** Cramer's rule: minors over all sets of columns, the last column being what the equations come to. */
        private void solveRows() {
            int allColumns = 2 * ALL + 1;
            minors[0] = 1;
            for (int columns = 1; columns < allColumns; columns++) {
                minors[columns] = minorOf(columns, rows[Integer.bitCount(columns) - 1]);
            }
            // It is never below 1; the guard shows it to every division.
            lower = Math.max(1, minors[ALL]);
            long sign = 1;
            for (int j = JOINTS - 1; j >= 0; j--) {
                headUppers[j] = sign * minors[allColumns ^ 1 << j];
                sign = -sign;
            }
        }

        /** The determinant of these columns and as many first rows, by the last of these rows. */
        private long minorOf(int columns, long[] row) {
            long sum = 0;
            long sign = 1;
            for (int j = JOINTS; j >= 0; j--) {
                if ((columns >> j & 1) == 1) {
                    sum += sign * row[j] * minors[columns ^ 1 << j];
                    sign = -sign;
                }
            }
            return sum;
        }

        private void reckonFlows() {
            for (int c = 0; c < rock.crackCount; c++) {
                Crack one = rock.cracks[c];
                flowUppers[c] = one.lets() * (headUppers[one.from] - headUppers[one.to]);
            }
        }
    }

    /** Ways through, from the highest held joints to the lowest. */
    private static final class Ways {
        final Rock rock;
        int starts;
        int ends;
        int leastWidth;
        int wanted;

        Ways(Rock rock) {
            this.rock = rock;
        }

        boolean isOne(int t) {
            findEnds();
            return (rock.reachedFrom(starts, t) & ends) != 0;
        }

        int count(int t) {
            return countOver(NONE, t);
        }

        /** How many go over a crack; over any, if NONE is wanted. */
        int countOver(int c, int t) {
            findEnds();
            leastWidth = t;
            wanted = c;
            int count = 0;
            for (int j = 0; j < rock.jointCount; j++) {
                if ((starts >> j & 1) == 1) {
                    count += countFrom(j, 1 << j, c == NONE, 1);
                }
            }
            return count;
        }

        private void findEnds() {
            starts = rock.heldMost(1);
            ends = rock.heldMost(-1);
            if ((starts & ends) != 0) {
                // The highest is the lowest: nothing leads anywhere.
                starts = 0;
                ends = 0;
            }
        }

        private int countFrom(int joint, int seen, boolean hasWanted, int depth) {
            if (depth > JOINTS) {
                return 0;
            }
            // A way may end here and another one go on through the same joint.
            int count = hasWanted && (ends >> joint & 1) == 1 ? 1 : 0;
            for (int c = 0; c < rock.crackCount; c++) {
                Crack one = rock.cracks[c];
                int next = one.otherEnd(joint);
                if (one.isAt(joint) && one.width >= leastWidth && (seen >> next & 1) == 0) {
                    count += countFrom(next, seen | 1 << next, hasWanted || c == wanted, depth + 1);
                }
            }
            return count;
        }
    }

    /** Widths, stores and steps of up to eight times, in a ring, so that the eldest goes without moving the others. */
    private static final class Keeps {
        final int[][] widths = new int[KEPT][CRACKS];
        final int[][] stores = new int[KEPT][CRACKS];
        final int[] crackCounts = new int[KEPT];
        final int[] stepCounts = new int[KEPT];
        int next;
        int count;

        void push(Rock rock) {
            for (int c = 0; c < rock.crackCount; c++) {
                widths[next][c] = rock.cracks[c].width;
                stores[next][c] = rock.cracks[c].store;
            }
            crackCounts[next] = rock.crackCount;
            stepCounts[next] = rock.stepCount;
            next = (next + 1) % KEPT;
            count = Math.min(count + 1, KEPT);
        }

        void pop(Rock rock) {
            next = (next + KEPT - 1) % KEPT;
            count--;
            for (int c = 0; c < crackCounts[next]; c++) {
                rock.setWidth(c, widths[next][c]);
                rock.cracks[c].store = stores[next][c];
            }
            rock.stepCount = stepCounts[next];
        }
    }

    /** A row of a lane, or nothing; cells are longs that were cut to the lane as they came. */
    private static final class Core {
        final long[] cells = new long[CELLS];
        boolean isThere;
        int lane;
        int length;

        void renew(int newLane, int newLength) {
            isThere = true;
            lane = newLane;
            length = newLength;
            Arrays.fill(cells, 0);
        }

        boolean isOfAnotherLane(int asked) {
            return isThere && lane != asked;
        }

        /** Whether cells i .. i + n - 1 are there, for an n not below 0; written so that no sum can wrap. */
        boolean hasCells(int i, int n) {
            return i >= 0 && n <= length - i;
        }

        boolean areWithin(int i, int n, int least, int most) {
            for (int done = 0; done < n; done++) {
                if (!isWithin(cells[i + done], least, most)) {
                    return false;
                }
            }
            return true;
        }

        long cut(long value) {
            switch (lane) {
                case BYTES:
                    return (byte) value;
                case SHORTS:
                    return (short) value;
                case INTS:
                    return (int) value;
                default:
                    return value;
            }
        }
    }
}
