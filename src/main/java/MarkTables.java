/**
 * A bench for finite groups that are told by a few orders of places: their
 * closed heaps up to turning, the table of marks, and acts known by their marks.
 */
public final class MarkTables {

    public static final int NONE = -1;

    private static final int BAD_NUMBER = -1;
    private static final int NO_SUCH = -2;
    private static final int BAD_INDEX = -3;
    private static final int BAD_LENGTH = -4;
    private static final int NO_ROOM = -5;
    private static final int NO_ORDER = -6;
    private static final int NO_HEAP = -1000000;

    private static final int MAX_PLACES = 8;
    private static final int MAX_TURNS = 120;
    private static final int MAX_HEAPS = 300;
    private static final int SHEETS = 4;
    private static final int ACTS = 8;
    private static final int IMAGES = 3;
    private static final int MAX_COLOURS = 100;
    private static final int MAX_TIMES = 1000000;
    private static final int MAX_DRAWN = 6;
    private static final int MAX_STEPS_DOWN = 10;
    private static final long MOST = 1000000000000000L;
    private static final long MOST_IN_ROW = 1000000000000L;

    /** 18! is above MOST. */
    private static final int LAST_FACTORIAL = 17;
    /** Two to this power is above MOST. */
    private static final int MOST_FACTORS = 50;
    /** A gcd of two longs needs no more steps than this. */
    private static final int GCD_STEPS = 100;

    private static final int BYTES = 0;
    private static final int SHORTS = 1;
    private static final int INTS = 2;

    /**
     * Turns are numbers of eight digits of three bits, that of place 0 in front, so
     * that they stand in the order that the document asks for; 0 1 2 .. 7 is this.
     */
    private static final int NOTHING_MOVED = 0x053977;

    private final Sheet[] sheets = new Sheet[SHEETS];
    private final int[] sheetCodes = new int[SHEETS];
    private final HeapFinder finder = new HeapFinder();
    private final ActMaker maker = new ActMaker();
    /** The bench, its images and the group in making never need more. */
    private final Group[] groups = new Group[IMAGES + 2];
    private final Bench[] images = new Bench[IMAGES];
    private final Bench bench;
    private int refusal = 0;
    private int misfitClass = NONE;

    public MarkTables() {
        for (int s = 0; s < SHEETS; s++) {
            sheets[s] = new Sheet();
        }
        groups[0] = new Group();
        bench = new Bench(groups[0]);
    }

    // ---- sheets and the group

    public int sheet(int s, int sort, int n) {
        if (s < 0 || s >= SHEETS || sort < BYTES || sort > INTS || n > MAX_PLACES) {
            return refuse(BAD_NUMBER);
        }
        if (n < 0) {
            sheets[s].takeAway();
            return refuse(BAD_LENGTH);
        }
        sheets[s].lay(sort, n);
        return accept(n);
    }

    public int write(int s, int i, int v) {
        if (s < 0 || s >= SHEETS) {
            return refuse(BAD_NUMBER);
        }
        if (sheets[s].isMissing()) {
            return refuse(NO_SUCH);
        }
        if (!sheets[s].put(i, v)) {
            return refuse(BAD_INDEX);
        }
        return accept(0);
    }

    public int group(int n) {
        if (n < 1 || n > MAX_PLACES) {
            return refuse(BAD_NUMBER);
        }
        if (!readSheets(n)) {
            return refuse(NO_ORDER);
        }
        Group made = unusedGroup();
        if (!made.build(n, sheetCodes, finder)) {
            return refuse(NO_ROOM);
        }
        bench.startWith(made);
        return accept(made.turns.count);
    }

    public int count(int what) {
        switch (what) {
            case 0:
                return bench.group.turns.places;
            case 1:
                return bench.group.turns.count;
            case 2:
                return bench.group.heaps.count;
            case 3:
                return bench.group.heaps.classes;
            case 4:
                return bench.actsThere();
            case 5:
                return bench.rowLength;
            default:
                return NONE;
        }
    }

    // ---- turns

    public int turn(int t, int p) {
        Turns turns = bench.group.turns;
        if (!turns.isTurn(t) || p < 0 || p >= turns.places) {
            return NONE;
        }
        return whereTo(turns.codes[t], p);
    }

    public int product(int s, int t) {
        Turns turns = bench.group.turns;
        return turns.isTurn(s) && turns.isTurn(t) ? turns.times(s, t) : NONE;
    }

    public int ofTurn(int t, int what) {
        Group group = bench.group;
        if (!group.turns.isTurn(t)) {
            return NONE;
        }
        switch (what) {
            case 0:
                return group.turns.inverse[t];
            case 1:
                return group.turns.order[t];
            case 2:
                return group.heaps.madeBy[t];
            case 3:
                return group.turns.kinOf(t);
            default:
                return NONE;
        }
    }

    // ---- heaps and classes

    public int heap(int h, int what) {
        Group group = bench.group;
        Heaps heaps = group.heaps;
        if (!heaps.isHeap(h)) {
            return NO_HEAP;
        }
        switch (what) {
            case 0:
                return heaps.size[h];
            case 1:
                return heaps.classOf[h];
            case 2:
                return heaps.isNormal(h) ? 1 : 0;
            case 3:
                return group.normaliser(h);
            case 4:
                return heaps.normalWithin(h);
            case 5:
                return group.derived(h);
            case 6:
                return heaps.sign[heaps.classOf[h]];
            case 7:
                return group.derived(h) == 0 ? 1 : 0;
            case 8:
                return heaps.countWithin(h);
            case 9:
                return heaps.countOver(h);
            default:
                return NO_HEAP;
        }
    }

    public int has(int h, int t) {
        Group group = bench.group;
        if (!group.heaps.isHeap(h) || !group.turns.isTurn(t)) {
            return NONE;
        }
        return group.heaps.holdsTurn(h, t) ? 1 : 0;
    }

    public int join(int h, int k, int way) {
        Heaps heaps = bench.group.heaps;
        if (!heaps.isHeap(h) || !heaps.isHeap(k) || !isWay(way)) {
            return NONE;
        }
        if (way == 0) {
            return heaps.indexOf(heaps.low[h] & heaps.low[k], heaps.high[h] & heaps.high[k]);
        }
        return heaps.leastOver(heaps.low[h] | heaps.low[k], heaps.high[h] | heaps.high[k]);
    }

    public int ofClass(int c, int what) {
        Heaps heaps = bench.group.heaps;
        if (!heaps.isClass(c)) {
            return NONE;
        }
        switch (what) {
            case 0:
                return heaps.sizeInClass(c);
            case 1:
                return heaps.number[c];
            case 2:
                return heaps.first[c];
            default:
                return NONE;
        }
    }

    public int within(int c, int d, int way) {
        Heaps heaps = bench.group.heaps;
        if (!heaps.isClass(c) || !heaps.isClass(d) || !isWay(way)) {
            return NONE;
        }
        return way == 0 ? heaps.below(c, d) : heaps.above(c, d);
    }

    public int table(int c, int d) {
        Heaps heaps = bench.group.heaps;
        return heaps.isClass(c) && heaps.isClass(d) ? heaps.markOn(c, d) : NONE;
    }

    public int sylow(int p) {
        if (p != 2 && p != 3 && p != 5 && p != 7) {
            return NONE;
        }
        int power = 1;
        int rest = bench.group.turns.count;
        for (int i = 0; i < MAX_TURNS && rest > 0 && rest % p == 0; i++) {
            rest /= p;
            power *= p;
        }
        return bench.group.heaps.firstClassOfSize(power);
    }

    public int down(int k) {
        if (k < 0 || k > MAX_STEPS_DOWN) {
            return NONE;
        }
        int left = bench.group.heaps.count - 1;
        for (int i = 0; i < k; i++) {
            left = bench.group.derived(left);
        }
        return left;
    }

    public int simple() {
        return bench.group.heaps.countNormal() == 2 ? 1 : 0;
    }

    // ---- making acts

    public long coset(int a, int c) {
        if (!isActNumber(a)) {
            return refuse(BAD_NUMBER);
        }
        if (!bench.group.heaps.isClass(c)) {
            return refuse(NO_SUCH);
        }
        maker.takeCoset(bench.group.heaps, c);
        return keepMade(a);
    }

    public long places(int a, int k, int way) {
        if (!isActNumber(a) || k < 0 || k > bench.group.turns.places || !isWay(way)) {
            return refuse(BAD_NUMBER);
        }
        maker.takePlaces(bench.group, k, way);
        return keepMade(a);
    }

    public long heaps(int a) {
        if (!isActNumber(a)) {
            return refuse(BAD_NUMBER);
        }
        maker.takeHeaps(bench.group);
        return keepMade(a);
    }

    public long both(int a, int b, int c, int way) {
        if (!isActNumber(a) || !isWay(way)) {
            return refuse(BAD_NUMBER);
        }
        if (!isAct(b) || !isAct(c)) {
            return refuse(NO_SUCH);
        }
        if (way == 0) {
            if (bench.placesOf(b) + bench.placesOf(c) > MOST) {
                return refuse(NO_ROOM);
            }
            maker.takeSum(bench, b, c);
            return keepMade(a);
        }
        if (timesUpTo(bench.placesOf(b), bench.placesOf(c)) > MOST) {
            return refuse(NO_ROOM);
        }
        maker.takePairs(bench, b, c);
        return keepMade(a);
    }

    public long colour(int a, int b, int k) {
        if (!isActNumber(a) || k < 0 || k > MAX_COLOURS) {
            return refuse(BAD_NUMBER);
        }
        if (!isAct(b)) {
            return refuse(NO_SUCH);
        }
        if (powerUpTo(k, bench.placesOf(b)) > MOST) {
            return refuse(NO_ROOM);
        }
        maker.takeColourings(bench, b, k);
        return keepMade(a);
    }

    public long many(int a, int b, int k) {
        if (!isActNumber(a) || k < 0 || k > MAX_TIMES) {
            return refuse(BAD_NUMBER);
        }
        if (!isAct(b)) {
            return refuse(NO_SUCH);
        }
        if (timesUpTo(bench.placesOf(b), k) > MOST) {
            return refuse(NO_ROOM);
        }
        maker.takeMultiple(bench, b, k);
        return keepMade(a);
    }

    // ---- asking acts

    public long parts(int a, int c) {
        return isAct(a) && bench.group.heaps.isClass(c) ? bench.partOf(a, c) : NONE;
    }

    public long mark(int a, int c) {
        return isAct(a) && bench.group.heaps.isClass(c) ? bench.markOf(a, c) : NONE;
    }

    public long act(int a, int what, int t) {
        if (!isAct(a)) {
            return NONE;
        }
        Group group = bench.group;
        switch (what) {
            case 0:
                return bench.placesOf(a);
            case 1:
                return bench.allParts(a);
            case 2:
                return bench.idleHeap(a);
            case 3:
                return group.turns.isTurn(t) ? bench.leftByTurn(a, t) : NONE;
            case 4:
                return group.turns.isTurn(t) ? bench.roundsOf(a, group.heaps.madeBy[t]) : NONE;
            case 5:
                return group.heaps.isHeap(t) ? bench.roundsOf(a, t) : NONE;
            default:
                return NONE;
        }
    }

    public int same(int a, int b) {
        if (!isAct(a) || !isAct(b)) {
            return refuse(NO_SUCH);
        }
        return accept(bench.firstDifference(a, b));
    }

    public long maps(int a, int b, int way) {
        if (!isAct(a) || !isAct(b) || !isWay(way)) {
            return NONE;
        }
        long ways = way == 0 ? bench.mapsAlong(a, b) : bench.mapsOnToAll(a, b);
        return ways > MOST ? NO_ROOM : ways;
    }

    // ---- rows of numbers

    public int row(long v) {
        if (v < -MOST_IN_ROW || v > MOST_IN_ROW) {
            return refuse(BAD_NUMBER);
        }
        if (bench.rowLength >= bench.group.heaps.classes) {
            return refuse(NO_ROOM);
        }
        bench.row[bench.rowLength] = v;
        bench.rowLength++;
        return accept(bench.rowLength);
    }

    public int check(int a) {
        Heaps heaps = bench.group.heaps;
        if (bench.rowLength != heaps.classes) {
            return refuse(BAD_NUMBER);
        }
        bench.rowLength = 0;
        misfitClass = maker.takeMarks(heaps, bench.row);
        if (misfitClass != NONE) {
            return accept(0);
        }
        misfitClass = maker.lastBelowNone(heaps.classes);
        if (misfitClass != NONE) {
            return accept(1);
        }
        if (isActNumber(a)) {
            bench.keep(a, maker);
        }
        return accept(2);
    }

    public int misfit() {
        return misfitClass;
    }

    // ---- drawing turns at random

    public long chance(int k, int what) {
        if (k < 0 || k > MAX_DRAWN || what < 0 || what > 1) {
            return BAD_NUMBER;
        }
        long upper = bench.group.heaps.drawsThatMakeAll(k);
        long lower = powerOf(bench.group.turns.count, k);
        long shared = greatestDivisor(upper, lower);
        if (shared == 0) {
            return BAD_NUMBER;
        }
        return what == 0 ? upper / shared : lower / shared;
    }

    public int rank() {
        for (int k = 0; k <= MAX_DRAWN; k++) {
            if (bench.group.heaps.drawsThatMakeAll(k) != 0) {
                return k;
            }
        }
        return NONE;
    }

    // ---- images

    public int image(int k) {
        if (k < 0 || k >= IMAGES) {
            return refuse(BAD_NUMBER);
        }
        if (images[k] == null) {
            images[k] = new Bench(bench.group);
        }
        images[k].copyFrom(bench);
        return accept(0);
    }

    public int back(int k) {
        if (k < 0 || k >= IMAGES) {
            return refuse(BAD_NUMBER);
        }
        if (images[k] == null) {
            return refuse(NO_SUCH);
        }
        bench.copyFrom(images[k]);
        return accept(0);
    }

    public int status() {
        return refusal;
    }

    // ---- what the calls share

    private int refuse(int code) {
        refusal = code;
        return code;
    }

    private int accept(int answer) {
        refusal = 0;
        return answer;
    }

    private static boolean isWay(int way) {
        return way == 0 || way == 1;
    }

    private static boolean isActNumber(int a) {
        return a >= 0 && a < ACTS;
    }

    private boolean isAct(int a) {
        return isActNumber(a) && bench.there[a];
    }

    private long keepMade(int a) {
        bench.keep(a, maker);
        refusal = 0;
        return bench.placesOf(a);
    }

    private boolean readSheets(int n) {
        for (int s = 0; s < SHEETS; s++) {
            int code = sheets[s].codeFor(n);
            if (code == NONE) {
                return false;
            }
            sheetCodes[s] = code;
        }
        return true;
    }

    /** Groups are built beside those in use, as a refused one must leave all as it was. */
    private Group unusedGroup() {
        for (int i = 0; i < groups.length; i++) {
            if (groups[i] == null) {
                groups[i] = new Group();
            }
            if (!isInUse(groups[i])) {
                return groups[i];
            }
        }
        return new Group();
    }

    private boolean isInUse(Group group) {
        if (bench.group == group) {
            return true;
        }
        for (int k = 0; k < IMAGES; k++) {
            if (images[k] != null && images[k].group == group) {
                return true;
            }
        }
        return false;
    }

    // ---- turns as numbers

    private static int whereTo(int code, int p) {
        return (code >> (3 * (MAX_PLACES - 1 - p))) & 7;
    }

    private static int oneBehindOther(int s, int t) {
        int code = 0;
        for (int p = 0; p < MAX_PLACES; p++) {
            code = (code << 3) | whereTo(t, whereTo(s, p));
        }
        return code;
    }

    // ---- sets of turns as two longs, turns 0 to 63 in the low one

    private static boolean holds(long low, long high, int t) {
        return (((t < 64 ? low : high) >>> (t & 63)) & 1L) != 0;
    }

    private static long lowBit(int t) {
        return t < 64 ? 1L << (t & 63) : 0L;
    }

    private static long highBit(int t) {
        return t < 64 ? 0L : 1L << (t & 63);
    }

    // ---- numbers

    /** MOST + 1 stands for all numbers above MOST; 0 times any of them is still 0. */
    private static long timesUpTo(long x, long y) {
        if (x == 0 || y == 0) {
            return 0;
        }
        return x > MOST / y ? MOST + 1 : x * y;
    }

    /** As timesUpTo; nothing to the power of nothing is 1. */
    private static long powerUpTo(long base, long times) {
        if (times == 0 || base == 1) {
            return 1;
        }
        if (base == 0) {
            return 0;
        }
        long power = 1;
        for (int i = 0; i < MOST_FACTORS && i < times; i++) {
            power = timesUpTo(power, base);
        }
        return power;
    }

    private static long factorialUpTo(long n) {
        if (n > LAST_FACTORIAL) {
            return MOST + 1;
        }
        long answer = 1;
        for (int i = 2; i <= LAST_FACTORIAL && i <= n; i++) {
            answer *= i;
        }
        return answer;
    }

    private static long powerOf(long base, int times) {
        long power = 1;
        for (int i = 0; i < times; i++) {
            power *= base;
        }
        return power;
    }

    private static long greatestDivisor(long a, long b) {
        long x = a;
        long y = b;
        for (int i = 0; i < GCD_STEPS && y != 0; i++) {
            long rest = x % y;
            x = y;
            y = rest;
        }
        return x;
    }

    private static boolean isPowerOfPrime(int n) {
        for (int p = 2; p <= n; p++) {
            if (n % p == 0) {
                int rest = n;
                for (int i = 0; i < MAX_TURNS && rest % p == 0; i++) {
                    rest /= p;
                }
                return rest == 1;
            }
        }
        return false;
    }

    /** Rows are used again; only a greater group than any before asks for a new one. */
    private static int[] roomFor(int[] row, int length) {
        return row.length >= length ? row : new int[Math.max(length, 2 * row.length)];
    }

    /** A row of numbers that may tell where places go. */
    private static final class Sheet {
        private final int[] numbers = new int[MAX_PLACES];
        private int sort = BYTES;
        private int length = NONE;

        void lay(int newSort, int newLength) {
            sort = newSort;
            length = newLength;
            for (int i = 0; i < MAX_PLACES; i++) {
                numbers[i] = 0;
            }
        }

        void takeAway() {
            length = NONE;
        }

        boolean isMissing() {
            return length == NONE;
        }

        boolean put(int i, int v) {
            if (i < 0 || i >= length || i >= MAX_PLACES) {
                return false;
            }
            numbers[i] = sort == BYTES ? (byte) v : sort == SHORTS ? (short) v : v;
            return true;
        }

        /** The turn of n places that the sheet tells, or NONE if it is no order of them. */
        int codeFor(int n) {
            int code = 0;
            int taken = 0;
            for (int p = 0; p < MAX_PLACES; p++) {
                int to = p < n && p < length ? numbers[p] : p;
                if (to < 0 || to >= MAX_PLACES || (p < n && to >= n) || ((taken >> to) & 1) != 0) {
                    return NONE;
                }
                taken |= 1 << to;
                code = (code << 3) | to;
            }
            return code;
        }
    }

    /** All turns of a group, and how they are multiplied. A new one has turn 0 alone. */
    private static final class Turns {
        int places = 1;
        int count = 1;
        int makers = 0;
        final int[] codes = new int[MAX_TURNS];
        final int[] inverse = new int[MAX_TURNS];
        final int[] order = new int[MAX_TURNS];
        /** Where each turn comes to with maker m behind it, MAX_TURNS numbers a maker. */
        final int[] steps = new int[SHEETS * MAX_TURNS];
        private final int[] makerCodes = new int[SHEETS];
        private final int[] reached = new int[MAX_TURNS];
        private final boolean[] isReached = new boolean[MAX_TURNS];
        private int[] products = new int[1];

        Turns() {
            codes[0] = NOTHING_MOVED;
            order[0] = 1;
        }

        boolean isTurn(int t) {
            return t >= 0 && t < count;
        }

        int times(int s, int t) {
            return products[s * count + t];
        }

        /** What t becomes when g leads it. */
        int ledBy(int g, int t) {
            return times(times(inverse[g], t), g);
        }

        int kinOf(int t) {
            int keepers = 0;
            for (int g = 0; g < count; g++) {
                if (times(g, t) == times(t, g)) {
                    keepers++;
                }
            }
            return keepers > 0 ? count / keepers : NONE;
        }

        /** False if there are too many; then the turns are of no use. */
        boolean build(int n, int[] sheetCodes) {
            places = n;
            keepMakers(sheetCodes);
            if (!collect()) {
                return false;
            }
            sortCodes();
            fillSteps();
            fillProducts();
            fillPowers();
            return true;
        }

        private void keepMakers(int[] sheetCodes) {
            makers = 0;
            for (int s = 0; s < SHEETS && s < sheetCodes.length; s++) {
                if (sheetCodes[s] != NOTHING_MOVED && indexIn(makerCodes, makers, sheetCodes[s]) == NONE) {
                    makerCodes[makers] = sheetCodes[s];
                    makers++;
                }
            }
        }

        private static int indexIn(int[] row, int length, int number) {
            for (int i = 0; i < length && i < row.length; i++) {
                if (row[i] == number) {
                    return i;
                }
            }
            return NONE;
        }

        private boolean collect() {
            codes[0] = NOTHING_MOVED;
            count = 1;
            for (int t = 0; t < count && t < MAX_TURNS; t++) {
                for (int m = 0; m < makers; m++) {
                    int code = oneBehindOther(codes[t], makerCodes[m]);
                    if (indexIn(codes, count, code) == NONE) {
                        if (count >= MAX_TURNS) {
                            return false;
                        }
                        codes[count] = code;
                        count++;
                    }
                }
            }
            return true;
        }

        private void sortCodes() {
            for (int i = 1; i < count; i++) {
                int code = codes[i];
                int at = i;
                for (; at > 0 && codes[at - 1] > code; at--) {
                    codes[at] = codes[at - 1];
                }
                codes[at] = code;
            }
        }

        private void fillSteps() {
            for (int m = 0; m < makers; m++) {
                for (int t = 0; t < count; t++) {
                    steps[m * MAX_TURNS + t] = numberOf(oneBehindOther(codes[t], makerCodes[m]));
                }
            }
        }

        /** The codes stand in order, and 120 of them are halved in seven steps. */
        private int numberOf(int code) {
            int from = 0;
            int to = count - 1;
            for (int i = 0; i < MAX_TURNS && from < to; i++) {
                int middle = (from + to) / 2;
                if (codes[middle] < code) {
                    from = middle + 1;
                } else {
                    to = middle;
                }
            }
            return from;
        }

        /** A product by a turn is one by the turn that it was reached from, and a step. */
        private void fillProducts() {
            products = roomFor(products, count * count);
            for (int t = 0; t < count; t++) {
                isReached[t] = t == 0;
                products[t * count] = t;
            }
            reached[0] = 0;
            int known = 1;
            for (int i = 0; i < known && i < MAX_TURNS; i++) {
                for (int m = 0; m < makers; m++) {
                    int next = steps[m * MAX_TURNS + reached[i]];
                    if (!isReached[next] && known < MAX_TURNS) {
                        isReached[next] = true;
                        reached[known] = next;
                        known++;
                        fillProductsBy(next, reached[i], m);
                    }
                }
            }
        }

        private void fillProductsBy(int next, int before, int m) {
            for (int s = 0; s < count; s++) {
                products[s * count + next] = steps[m * MAX_TURNS + products[s * count + before]];
            }
        }

        private void fillPowers() {
            for (int t = 0; t < count; t++) {
                int last = 0;
                int power = t;
                int times = 1;
                for (; power != 0 && times <= MAX_TURNS; times++) {
                    last = power;
                    power = times(power, t);
                }
                order[t] = times;
                inverse[t] = last;
            }
        }
    }

    /**
     * Finds all heaps of a group, kind by kind. One heap of a kind is enough to
     * grow from: each heap is made by a lesser one and a turn whose order is a
     * power of a prime, and being led carries that over to all of the kind.
     */
    private static final class HeapFinder {
        /** A chain of heaps, each within the next, of 120 turns has fewer steps. */
        private static final int MOST_MAKERS = 8;

        int count = 0;
        final long[] low = new long[MAX_HEAPS];
        final long[] high = new long[MAX_HEAPS];
        final int[] size = new int[MAX_HEAPS];
        final int[] kind = new int[MAX_HEAPS];
        private int kinds = 0;
        private final int[] kindHead = new int[MAX_HEAPS];
        private final int[] kindMakers = new int[MAX_HEAPS];
        private final int[] makers = new int[MAX_HEAPS * MOST_MAKERS];
        private int seeds = 0;
        private final int[] seed = new int[MAX_TURNS];
        private final int[] led = new int[SHEETS * MAX_TURNS];
        private int members = 0;
        private final int[] member = new int[MAX_TURNS];
        private final int[] edge = new int[MAX_TURNS];
        private long newLow = 0;
        private long newHigh = 0;
        private int newSize = 0;

        /** False if there are too many. */
        boolean find(Turns turns) {
            count = 0;
            kinds = 0;
            gatherSeeds(turns);
            fillLed(turns);
            startWithTurnNought();
            for (int k = 0; k < kinds && k < MAX_HEAPS; k++) {
                if (!growFrom(k, turns)) {
                    return false;
                }
            }
            return true;
        }

        /** Whether heap a stands ahead of heap b. */
        boolean isAhead(int a, int b) {
            if (size[a] != size[b]) {
                return size[a] < size[b];
            }
            long apart = low[a] ^ low[b];
            if (apart != 0) {
                return (low[a] & apart & -apart) != 0;
            }
            apart = high[a] ^ high[b];
            return (high[a] & apart & -apart) != 0;
        }

        private void gatherSeeds(Turns turns) {
            seeds = 0;
            for (int t = 1; t < turns.count; t++) {
                if (isPowerOfPrime(turns.order[t]) && isFirstOfItsHeap(t, turns)) {
                    seed[seeds] = t;
                    seeds++;
                }
            }
        }

        private static boolean isFirstOfItsHeap(int t, Turns turns) {
            int power = t;
            for (int i = 1; i < turns.order[t]; i++) {
                if (power < t && turns.order[power] == turns.order[t]) {
                    return false;
                }
                power = turns.times(power, t);
            }
            return true;
        }

        private void fillLed(Turns turns) {
            for (int m = 0; m < turns.makers; m++) {
                int maker = turns.steps[m * MAX_TURNS];
                for (int t = 0; t < turns.count; t++) {
                    led[m * MAX_TURNS + t] = turns.ledBy(maker, t);
                }
            }
        }

        private void startWithTurnNought() {
            low[0] = 1;
            high[0] = 0;
            size[0] = 1;
            kind[0] = 0;
            count = 1;
            kindHead[0] = 0;
            kindMakers[0] = 0;
            kinds = 1;
        }

        private boolean growFrom(int k, Turns turns) {
            int head = kindHead[k];
            gatherMembers(head, turns);
            for (int i = 0; i < seeds; i++) {
                if (!holds(low[head], high[head], seed[i])) {
                    close(k, seed[i], turns);
                    if (indexFrom(0, newLow, newHigh) == NONE && !addKind(k, seed[i], turns)) {
                        return false;
                    }
                }
            }
            return true;
        }

        private void gatherMembers(int h, Turns turns) {
            members = 0;
            for (int t = 0; t < turns.count; t++) {
                if (holds(low[h], high[h], t)) {
                    member[members] = t;
                    members++;
                }
            }
        }

        /** The least heap over the head of kind k and a turn, as sets of the head times a turn. */
        private void close(int k, int t, Turns turns) {
            newLow = low[kindHead[k]];
            newHigh = high[kindHead[k]];
            edge[0] = 0;
            int edges = 1;
            for (int i = 0; i < edges && i < MAX_TURNS; i++) {
                for (int m = 0; m <= kindMakers[k]; m++) {
                    int maker = m < kindMakers[k] ? makers[k * MOST_MAKERS + m] : t;
                    int next = turns.times(edge[i], maker);
                    if (!holds(newLow, newHigh, next) && edges < MAX_TURNS) {
                        addMembersTimes(next, turns);
                        edge[edges] = next;
                        edges++;
                    }
                }
            }
            newSize = members * edges;
        }

        private void addMembersTimes(int t, Turns turns) {
            for (int i = 0; i < members; i++) {
                addToNew(turns.times(member[i], t));
            }
        }

        private void addToNew(int t) {
            if (t < 64) {
                newLow |= 1L << t;
            } else {
                newHigh |= 1L << (t & 63);
            }
        }

        private int indexFrom(int start, long wantedLow, long wantedHigh) {
            for (int h = start; h < count; h++) {
                if (low[h] == wantedLow && high[h] == wantedHigh) {
                    return h;
                }
            }
            return NONE;
        }

        /** Adds the new heap, made by kind k and a turn, and all that are like it. */
        private boolean addKind(int k, int t, Turns turns) {
            int start = count;
            if (kinds >= MAX_HEAPS || !addNew()) {
                return false;
            }
            keepMakers(k, t);
            kindHead[kinds] = start;
            for (int h = start; h < count && h < MAX_HEAPS; h++) {
                for (int m = 0; m < turns.makers; m++) {
                    leadToNew(h, m, turns);
                    if (indexFrom(start, newLow, newHigh) == NONE && !addNew()) {
                        return false;
                    }
                }
            }
            kinds++;
            return true;
        }

        private boolean addNew() {
            if (count >= MAX_HEAPS) {
                return false;
            }
            low[count] = newLow;
            high[count] = newHigh;
            size[count] = newSize;
            kind[count] = kinds;
            count++;
            return true;
        }

        private void keepMakers(int k, int t) {
            int kept = 0;
            for (; kept < kindMakers[k] && kept < MOST_MAKERS - 1; kept++) {
                makers[kinds * MOST_MAKERS + kept] = makers[k * MOST_MAKERS + kept];
            }
            makers[kinds * MOST_MAKERS + kept] = t;
            kindMakers[kinds] = kept + 1;
        }

        private void leadToNew(int h, int m, Turns turns) {
            newLow = 0;
            newHigh = 0;
            for (int t = 0; t < turns.count; t++) {
                if (holds(low[h], high[h], t)) {
                    addToNew(led[m * MAX_TURNS + t]);
                }
            }
        }
    }

    /** All heaps of a group in their order, and their classes. A new one has heap 0 alone. */
    private static final class Heaps {
        int count = 1;
        int classes = 1;
        final long[] low = new long[MAX_HEAPS];
        final long[] high = new long[MAX_HEAPS];
        final int[] size = new int[MAX_HEAPS];
        final int[] classOf = new int[MAX_HEAPS];
        /** The heap that each turn makes. */
        final int[] madeBy = new int[MAX_TURNS];
        /** Of each heap what the document calls 5, NONE until it is asked for. */
        final int[] derived = new int[MAX_HEAPS];
        final int[] first = new int[MAX_HEAPS];
        final int[] number = new int[MAX_HEAPS];
        final int[] sign = new int[MAX_HEAPS];
        /** How often a heap of a class goes into what leads it to itself. */
        final int[] spare = new int[MAX_HEAPS];
        private final int[] sorted = new int[MAX_HEAPS];
        /** How many heaps of class d the first of class c lies in, at c * classes + d. */
        private int[] over = new int[1];

        Heaps() {
            low[0] = 1;
            size[0] = 1;
            number[0] = 1;
            sign[0] = 1;
            spare[0] = 1;
            over[0] = 1;
        }

        boolean isHeap(int h) {
            return h >= 0 && h < count;
        }

        boolean isClass(int c) {
            return c >= 0 && c < classes;
        }

        boolean isNormal(int h) {
            return number[classOf[h]] == 1;
        }

        boolean holdsTurn(int h, int t) {
            return holds(low[h], high[h], t);
        }

        int sizeInClass(int c) {
            return size[first[c]];
        }

        private boolean liesIn(int h, int k) {
            return (low[h] & ~low[k]) == 0 && (high[h] & ~high[k]) == 0;
        }

        int indexOf(long wantedLow, long wantedHigh) {
            for (int h = 0; h < count; h++) {
                if (low[h] == wantedLow && high[h] == wantedHigh) {
                    return h;
                }
            }
            return NONE;
        }

        /** The least heap over a set lies within each other one over it, so it is the first. */
        int leastOver(long setLow, long setHigh) {
            int whole = count - 1;
            for (int h = 0; h < whole; h++) {
                if ((setLow & ~low[h]) == 0 && (setHigh & ~high[h]) == 0) {
                    return h;
                }
            }
            return whole;
        }

        int normalWithin(int h) {
            for (int k = h; k > 0; k--) {
                if (isNormal(k) && liesIn(k, h)) {
                    return k;
                }
            }
            return 0;
        }

        int countWithin(int h) {
            int found = 0;
            for (int k = 0; k <= h; k++) {
                if (liesIn(k, h)) {
                    found++;
                }
            }
            return found;
        }

        int countOver(int h) {
            int found = 0;
            for (int k = h; k < count; k++) {
                if (liesIn(h, k)) {
                    found++;
                }
            }
            return found;
        }

        int countNormal() {
            int found = 0;
            for (int c = 0; c < classes; c++) {
                if (number[c] == 1) {
                    found++;
                }
            }
            return found;
        }

        int firstClassOfSize(int wanted) {
            for (int c = 0; c < classes; c++) {
                if (sizeInClass(c) == wanted) {
                    return c;
                }
            }
            return NONE;
        }

        /** How many heaps of class d one of class c lies in. */
        int above(int c, int d) {
            return over[c * classes + d];
        }

        /** How many heaps of class d lie within one of class c: all such pairs, counted by c. */
        int below(int c, int d) {
            return number[c] > 0 ? above(d, c) * number[d] / number[c] : 0;
        }

        /** The mark of class d on coset c. */
        int markOn(int c, int d) {
            return spare[c] * above(d, c);
        }

        /** How many rows of k turns make the whole group. */
        long drawsThatMakeAll(int k) {
            long rows = 0;
            for (int c = 0; c < classes; c++) {
                rows += (long) sign[c] * number[c] * powerOf(sizeInClass(c), k);
            }
            return rows;
        }

        void fill(HeapFinder found, Turns turns) {
            count = found.count;
            sortFound(found);
            for (int h = 0; h < count; h++) {
                low[h] = found.low[sorted[h]];
                high[h] = found.high[sorted[h]];
                size[h] = found.size[sorted[h]];
                derived[h] = NONE;
            }
            numberClasses(found);
            fillMadeBy(turns);
            fillOver();
            fillSpare(turns.count);
            fillSigns();
        }

        private void sortFound(HeapFinder found) {
            for (int i = 0; i < count; i++) {
                int at = i;
                for (; at > 0 && found.isAhead(i, sorted[at - 1]); at--) {
                    sorted[at] = sorted[at - 1];
                }
                sorted[at] = i;
            }
        }

        private void numberClasses(HeapFinder found) {
            classes = 0;
            for (int h = 0; h < count; h++) {
                int c = classOfKind(found, found.kind[sorted[h]]);
                if (c == classes) {
                    first[c] = h;
                    number[c] = 0;
                    classes++;
                }
                classOf[h] = c;
                number[c]++;
            }
        }

        private int classOfKind(HeapFinder found, int kind) {
            for (int c = 0; c < classes; c++) {
                if (found.kind[sorted[first[c]]] == kind) {
                    return c;
                }
            }
            return classes;
        }

        private void fillMadeBy(Turns turns) {
            for (int t = 0; t < turns.count; t++) {
                long madeLow = 1;
                long madeHigh = 0;
                int power = t;
                for (int i = 1; i < turns.order[t]; i++) {
                    madeLow |= lowBit(power);
                    madeHigh |= highBit(power);
                    power = turns.times(power, t);
                }
                madeBy[t] = Math.max(0, indexOf(madeLow, madeHigh));
            }
        }

        private void fillOver() {
            over = roomFor(over, classes * classes);
            for (int i = 0; i < classes * classes; i++) {
                over[i] = 0;
            }
            for (int c = 0; c < classes; c++) {
                for (int h = first[c]; h < count; h++) {
                    if (liesIn(first[c], h)) {
                        over[c * classes + classOf[h]]++;
                    }
                }
            }
        }

        private void fillSpare(int turns) {
            for (int c = 0; c < classes; c++) {
                int together = number[c] * sizeInClass(c);
                spare[c] = together > 0 ? turns / together : 1;
            }
        }

        private void fillSigns() {
            for (int c = classes - 1; c >= 0; c--) {
                int sum = 0;
                for (int d = c + 1; d < classes; d++) {
                    sum += above(c, d) * sign[d];
                }
                sign[c] = c == classes - 1 ? 1 : -sum;
            }
        }
    }

    /** Turns and heaps of one group. */
    private static final class Group {
        final Turns turns = new Turns();
        final Heaps heaps = new Heaps();

        /** False if there is no room; then the group is of no use. */
        boolean build(int n, int[] sheetCodes, HeapFinder finder) {
            if (!turns.build(n, sheetCodes) || !finder.find(turns)) {
                return false;
            }
            heaps.fill(finder, turns);
            return true;
        }

        /** The heap of all turns that lead h to itself. */
        int normaliser(int h) {
            if (heaps.isNormal(h)) {
                return heaps.count - 1;
            }
            long low = 0;
            long high = 0;
            for (int g = 0; g < turns.count; g++) {
                if (leadsToItself(g, h)) {
                    low |= lowBit(g);
                    high |= highBit(g);
                }
            }
            return heaps.indexOf(low, high);
        }

        private boolean leadsToItself(int g, int h) {
            for (int t = 0; t < turns.count; t++) {
                if (heaps.holdsTurn(h, t) && !heaps.holdsTurn(h, turns.ledBy(g, t))) {
                    return false;
                }
            }
            return true;
        }

        /** The least heap that has all s times t times inverse of s times inverse of t of h. */
        int derived(int h) {
            if (heaps.derived[h] == NONE) {
                heaps.derived[h] = findDerived(h);
            }
            return heaps.derived[h];
        }

        /** A pair the other way round gives an inverse, which lies in the same heaps. */
        private int findDerived(int h) {
            long low = 1;
            long high = 0;
            for (int s = 1; s < turns.count; s++) {
                if (!heaps.holdsTurn(h, s)) {
                    continue;
                }
                for (int t = 1; t < s; t++) {
                    if (heaps.holdsTurn(h, t)) {
                        int twist = twistOf(s, t);
                        low |= lowBit(twist);
                        high |= highBit(twist);
                    }
                }
            }
            return heaps.leastOver(low, high);
        }

        private int twistOf(int s, int t) {
            return turns.times(turns.times(s, t), turns.times(turns.inverse[s], turns.inverse[t]));
        }
    }

    /** The group in use, its acts and the row. */
    private static final class Bench {
        Group group;
        final boolean[] there = new boolean[ACTS];
        final long[] row = new long[MAX_HEAPS];
        int rowLength = 0;
        private final long[] marks = new long[ACTS * MAX_HEAPS];
        private final long[] parts = new long[ACTS * MAX_HEAPS];

        Bench(Group start) {
            group = start;
        }

        void startWith(Group made) {
            group = made;
            rowLength = 0;
            for (int a = 0; a < ACTS; a++) {
                there[a] = false;
            }
        }

        void copyFrom(Bench other) {
            group = other.group;
            rowLength = other.rowLength;
            System.arraycopy(other.row, 0, row, 0, rowLength);
            for (int a = 0; a < ACTS; a++) {
                there[a] = other.there[a];
                if (there[a]) {
                    int at = a * MAX_HEAPS;
                    System.arraycopy(other.marks, at, marks, at, group.heaps.classes);
                    System.arraycopy(other.parts, at, parts, at, group.heaps.classes);
                }
            }
        }

        void keep(int a, ActMaker made) {
            there[a] = true;
            System.arraycopy(made.marks, 0, marks, a * MAX_HEAPS, group.heaps.classes);
            System.arraycopy(made.parts, 0, parts, a * MAX_HEAPS, group.heaps.classes);
        }

        int actsThere() {
            int found = 0;
            for (int a = 0; a < ACTS; a++) {
                if (there[a]) {
                    found++;
                }
            }
            return found;
        }

        long markOf(int a, int c) {
            return marks[a * MAX_HEAPS + c];
        }

        long partOf(int a, int c) {
            return parts[a * MAX_HEAPS + c];
        }

        /** Turn 0 alone leaves every place. */
        long placesOf(int a) {
            return markOf(a, 0);
        }

        long allParts(int a) {
            long sum = 0;
            for (int c = 0; c < group.heaps.classes; c++) {
                sum += partOf(a, c);
            }
            return sum;
        }

        /** All that leave the whole act lie within the greatest one, so it is of the last class. */
        int idleHeap(int a) {
            for (int c = group.heaps.classes - 1; c > 0; c--) {
                if (markOf(a, c) == placesOf(a)) {
                    return group.heaps.first[c];
                }
            }
            return 0;
        }

        /** What a turn leaves, the heap that it makes does. */
        long leftByTurn(int a, int t) {
            return markOf(a, group.heaps.classOf[group.heaps.madeBy[t]]);
        }

        /** How many sets of places a heap leads to one another: what its turns leave, on average. */
        long roundsOf(int a, int h) {
            long left = 0;
            for (int t = 0; t < group.turns.count; t++) {
                if (group.heaps.holdsTurn(h, t)) {
                    left += leftByTurn(a, t);
                }
            }
            int size = group.heaps.size[h];
            return size > 0 ? left / size : 0;
        }

        int firstDifference(int a, int b) {
            for (int c = 0; c < group.heaps.classes; c++) {
                if (markOf(a, c) != markOf(b, c)) {
                    return c;
                }
            }
            return NONE;
        }

        /** Each part of a is led by one of its places, which goes where its heap leaves places. */
        long mapsAlong(int a, int b) {
            long ways = 1;
            for (int c = 0; c < group.heaps.classes; c++) {
                ways = timesUpTo(ways, powerUpTo(markOf(b, c), partOf(a, c)));
            }
            return ways;
        }

        long mapsOnToAll(int a, int b) {
            if (firstDifference(a, b) != NONE) {
                return 0;
            }
            long ways = 1;
            for (int c = 0; c < group.heaps.classes; c++) {
                long part = partOf(a, c);
                ways = timesUpTo(ways, factorialUpTo(part));
                ways = timesUpTo(ways, powerUpTo(group.heaps.spare[c], part));
            }
            return ways;
        }
    }

    /** Works out the marks and parts of a new act beside those that are there. */
    private static final class ActMaker {
        final long[] marks = new long[MAX_HEAPS];
        final long[] parts = new long[MAX_HEAPS];
        /** How many sets of so many places a heap leaves. */
        private final long[] setsOf = new long[MAX_PLACES + 1];

        void takeCoset(Heaps heaps, int coset) {
            for (int c = 0; c < heaps.classes; c++) {
                parts[c] = c == coset ? 1 : 0;
                marks[c] = heaps.markOn(coset, c);
            }
        }

        void takePlaces(Group group, int k, int way) {
            for (int c = 0; c < group.heaps.classes; c++) {
                int h = group.heaps.first[c];
                marks[c] = way == 0 ? setsLeft(group, h, k) : rowsLeft(group, h, k);
            }
            fillParts(group.heaps);
        }

        /** Sets that are left are put together of the rounds of the heap. */
        private long setsLeft(Group group, int h, int k) {
            for (int i = 0; i <= MAX_PLACES; i++) {
                setsOf[i] = i == 0 ? 1 : 0;
            }
            int seen = 0;
            for (int p = 0; p < group.turns.places; p++) {
                if (((seen >> p) & 1) == 0) {
                    int round = roundOf(group, h, p);
                    seen |= round;
                    addRound(Integer.bitCount(round));
                }
            }
            return setsOf[k];
        }

        private void addRound(int length) {
            for (int i = MAX_PLACES; i >= length; i--) {
                setsOf[i] += setsOf[i - length];
            }
        }

        /** All places that a heap leads place p to, as bits. */
        private int roundOf(Group group, int h, int p) {
            int round = 0;
            for (int t = 0; t < group.turns.count; t++) {
                if (group.heaps.holdsTurn(h, t)) {
                    round |= 1 << whereTo(group.turns.codes[t], p);
                }
            }
            return round;
        }

        /** Rows that are left have none but places that are left. */
        private long rowsLeft(Group group, int h, int k) {
            int left = 0;
            for (int p = 0; p < group.turns.places; p++) {
                if (Integer.bitCount(roundOf(group, h, p)) == 1) {
                    left++;
                }
            }
            long rows = 1;
            for (int i = 0; i < k; i++) {
                rows *= Math.max(0, left - i);
            }
            return rows;
        }

        /** Heaps of a class are led as the places that those which lead them to themselves have. */
        void takeHeaps(Group group) {
            Heaps heaps = group.heaps;
            for (int c = 0; c < heaps.classes; c++) {
                parts[c] = 0;
            }
            for (int c = 0; c < heaps.classes; c++) {
                int keeper = group.normaliser(heaps.first[c]);
                if (heaps.isHeap(keeper)) {
                    parts[heaps.classOf[keeper]]++;
                }
            }
            fillMarks(heaps);
        }

        void takeSum(Bench bench, int b, int c) {
            for (int d = 0; d < bench.group.heaps.classes; d++) {
                marks[d] = bench.markOf(b, d) + bench.markOf(c, d);
                parts[d] = bench.partOf(b, d) + bench.partOf(c, d);
            }
        }

        void takePairs(Bench bench, int b, int c) {
            for (int d = 0; d < bench.group.heaps.classes; d++) {
                marks[d] = bench.markOf(b, d) * bench.markOf(c, d);
            }
            fillParts(bench.group.heaps);
        }

        /** Colourings that are left have one colour in each round of the heap. */
        void takeColourings(Bench bench, int b, int k) {
            Heaps heaps = bench.group.heaps;
            for (int d = 0; d < heaps.classes; d++) {
                marks[d] = powerUpTo(k, bench.roundsOf(b, heaps.first[d]));
            }
            fillParts(heaps);
        }

        void takeMultiple(Bench bench, int b, int k) {
            for (int d = 0; d < bench.group.heaps.classes; d++) {
                marks[d] = bench.markOf(b, d) * k;
                parts[d] = bench.partOf(b, d) * k;
            }
        }

        /** The greatest class whose mark does not fit, or NONE. */
        int takeMarks(Heaps heaps, long[] wanted) {
            System.arraycopy(wanted, 0, marks, 0, heaps.classes);
            return fillParts(heaps);
        }

        /** The greatest class of which there would be fewer than none, or NONE. */
        int lastBelowNone(int classes) {
            for (int c = classes - 1; c >= 0; c--) {
                if (parts[c] < 0) {
                    return c;
                }
            }
            return NONE;
        }

        private void fillMarks(Heaps heaps) {
            for (int c = 0; c < heaps.classes; c++) {
                long sum = 0;
                for (int d = c; d < heaps.classes; d++) {
                    sum += parts[d] * heaps.markOn(d, c);
                }
                marks[c] = sum;
            }
        }

        /**
         * Coset d leaves nothing to classes above d, so the parts come out from the
         * last class down. Sums may wrap around on the way, but what is left is the
         * sum of the marks above times signs, and that is far within a long.
         */
        private int fillParts(Heaps heaps) {
            for (int c = heaps.classes - 1; c >= 0; c--) {
                long left = marks[c];
                for (int d = c + 1; d < heaps.classes; d++) {
                    if (parts[d] != 0) {
                        left -= parts[d] * heaps.markOn(d, c);
                    }
                }
                int own = heaps.markOn(c, c);
                if (own == 0 || left % own != 0) {
                    return c;
                }
                parts[c] = left / own;
            }
            return NONE;
        }
    }
}
