import java.math.BigInteger;
import java.util.ArrayList;
import java.util.Arrays;
import java.util.BitSet;
import java.util.List;
import java.util.function.IntToLongFunction;

/**
 * The whole document written a second time, in its plainest form: a group is written
 * out, an act is how many it has of each coset, and numbers have no bound.
 */
final class PlainTables {
    private static final BigInteger MOST = BigInteger.TEN.pow(15);
    private static final int NONE = -1;

    /** What an image keeps; none of it is changed once it is there. */
    private record Bench(PlainGroup group, List<BigInteger[]> acts, List<Long> row) {
    }

    private record Sheet(int sort, int[] numbers) {
    }

    private final Sheet[] sheets = new Sheet[4];
    private final Bench[] images = new Bench[3];
    private PlainGroup group = PlainGroup.of(1, new int[0][]);
    private BigInteger[][] acts = new BigInteger[8][];
    private List<Long> row = new ArrayList<>();
    private int status = 0;
    private int misfit = NONE;

    private int refused(int code) {
        status = code;
        return code;
    }

    private int done(int answer) {
        status = 0;
        return answer;
    }

    private static boolean isIn(int number, int least, int most) {
        return least <= number && number <= most;
    }

    // ---- sheets and the group

    int sheet(int s, int sort, int n) {
        if (!isIn(s, 0, 3) || !isIn(sort, 0, 2) || n > 8) {
            return refused(-1);
        }
        sheets[s] = n < 0 ? null : new Sheet(sort, new int[n]);
        return n < 0 ? refused(-4) : done(n);
    }

    int write(int s, int i, int v) {
        if (!isIn(s, 0, 3)) {
            return refused(-1);
        }
        if (sheets[s] == null) {
            return refused(-2);
        }
        if (!isIn(i, 0, sheets[s].numbers.length - 1)) {
            return refused(-3);
        }
        int spare = new int[] {24, 16, 0}[sheets[s].sort];
        sheets[s].numbers[i] = v << spare >> spare;
        return done(0);
    }

    int group(int n) {
        if (!isIn(n, 1, 8)) {
            return refused(-1);
        }
        int[][] orders = new int[4][];
        for (int s = 0; s < 4; s++) {
            int[] numbers = sheets[s] == null ? new int[0] : sheets[s].numbers;
            orders[s] = Oracle.whole(n, Arrays.copyOf(numbers, Math.min(n, numbers.length)));
            if (Arrays.stream(orders[s]).filter(p -> isIn(p, 0, n - 1)).distinct().count() != n) {
                return refused(-6);
            }
        }
        PlainGroup made = PlainGroup.of(n, orders);
        if (made == null) {
            return refused(-5);
        }
        group = made;
        acts = new BigInteger[8][];
        row = new ArrayList<>();
        return done(group.turns);
    }

    int count(int what) {
        int there = (int) Arrays.stream(acts).filter(act -> act != null).count();
        int[] counts = {group.oracle.n, group.turns, group.heaps, group.classes, there, row.size()};
        return isIn(what, 0, 5) ? counts[what] : NONE;
    }

    // ---- turns

    private boolean isTurn(int t) {
        return isIn(t, 0, group.turns - 1);
    }

    private boolean isHeap(int h) {
        return isIn(h, 0, group.heaps - 1);
    }

    private boolean isClass(int c) {
        return isIn(c, 0, group.classes - 1);
    }

    private boolean isAct(int a) {
        return isIn(a, 0, 7) && acts[a] != null;
    }

    int turn(int t, int p) {
        return isTurn(t) && isIn(p, 0, group.oracle.n - 1) ? group.oracle.turns.get(t).get(p) : NONE;
    }

    int product(int s, int t) {
        return isTurn(s) && isTurn(t) ? group.oracle.product[s][t] : NONE;
    }

    int ofTurn(int t, int what) {
        if (!isTurn(t)) {
            return NONE;
        }
        switch (what) {
            case 0: return group.oracle.inverse[t];
            case 1: return group.orderOf(t);
            case 2: return group.madeBy(t);
            case 3: return group.ledToBy(t);
            default: return NONE;
        }
    }

    // ---- heaps and classes

    int heap(int h, int what) {
        if (!isHeap(h) || !isIn(what, 0, 9)) {
            return -1000000;
        }
        Oracle oracle = group.oracle;
        switch (what) {
            case 0: return oracle.heaps.get(h).cardinality();
            case 1: return oracle.classOf[h];
            case 2: return oracle.isNormal(h) ? 1 : 0;
            case 3: return oracle.normaliser(h);
            case 4: return oracle.normalWithin(h);
            case 5: return oracle.derived(h);
            case 6: return group.signs[h];
            case 7: return group.isAlwaysTheOtherWayRound(h) ? 1 : 0;
            case 8: return (int) group.all().filter(k -> oracle.liesIn(k, h)).count();
            default: return (int) group.all().filter(k -> oracle.liesIn(h, k)).count();
        }
    }

    int has(int h, int t) {
        return !isHeap(h) || !isTurn(t) ? NONE : group.oracle.heaps.get(h).get(t) ? 1 : 0;
    }

    int join(int h, int k, int way) {
        if (!isHeap(h) || !isHeap(k) || !isIn(way, 0, 1)) {
            return NONE;
        }
        BitSet set = (BitSet) group.oracle.heaps.get(h).clone();
        if (way == 0) {
            set.and(group.oracle.heaps.get(k));
        } else {
            set.or(group.oracle.heaps.get(k));
        }
        return group.oracle.heapNumber.get(way == 0 ? set : group.oracle.made(set));
    }

    int ofClass(int c, int what) {
        if (!isClass(c) || !isIn(what, 0, 2)) {
            return NONE;
        }
        int first = group.oracle.first.get(c);
        int number = (int) group.all().filter(h -> group.oracle.classOf[h] == c).count();
        return new int[] {group.oracle.heaps.get(first).cardinality(), number, first}[what];
    }

    int within(int c, int d, int way) {
        if (!isClass(c) || !isClass(d) || !isIn(way, 0, 1)) {
            return NONE;
        }
        int one = group.oracle.first.get(c);
        return (int) group.all().filter(h -> group.oracle.classOf[h] == d)
            .filter(h -> way == 0 ? group.oracle.liesIn(h, one) : group.oracle.liesIn(one, h)).count();
    }

    int table(int c, int d) {
        return isClass(c) && isClass(d) ? (int) group.table[c][d] : NONE;
    }

    int sylow(int p) {
        if (p != 2 && p != 3 && p != 5 && p != 7) {
            return NONE;
        }
        int power = 1;
        while (group.turns % (power * p) == 0) {
            power *= p;
        }
        int size = power;
        return group.oracle.classOf[group.all()
            .filter(h -> group.oracle.heaps.get(h).cardinality() == size).findFirst().getAsInt()];
    }

    int down(int k) {
        int left = isIn(k, 0, 10) ? group.heaps - 1 : NONE;
        for (int i = 0; i < k && left != NONE; i++) {
            left = group.oracle.derived(left);
        }
        return left;
    }

    int simple() {
        return group.all().filter(group.oracle::isNormal).count() == 2 ? 1 : 0;
    }

    // ---- making acts

    private long become(int a, BigInteger[] parts) {
        acts[a] = parts;
        status = 0;
        return places(parts).longValueExact();
    }

    /** Of all parts of an act, what a number of each coset comes to. */
    private BigInteger sum(BigInteger[] parts, IntToLongFunction ofCoset) {
        BigInteger sum = BigInteger.ZERO;
        for (int c = 0; c < parts.length; c++) {
            if (parts[c].signum() != 0) {
                sum = sum.add(parts[c].multiply(BigInteger.valueOf(ofCoset.applyAsLong(c))));
            }
        }
        return sum;
    }

    private BigInteger places(BigInteger[] parts) {
        return sum(parts, c -> group.cosets[c].places);
    }

    private BigInteger markOf(BigInteger[] parts, int j) {
        return sum(parts, c -> group.table[c][j]);
    }

    private BigInteger rounds(BigInteger[] parts, int h) {
        return sum(parts, c -> group.rounds(c, h));
    }

    long coset(int a, int c) {
        if (!isIn(a, 0, 7)) {
            return refused(-1);
        }
        if (!isClass(c)) {
            return refused(-2);
        }
        BigInteger[] parts = group.noParts();
        parts[c] = BigInteger.ONE;
        return become(a, parts);
    }

    long places(int a, int k, int way) {
        if (!isIn(a, 0, 7) || !isIn(k, 0, group.oracle.n) || !isIn(way, 0, 1)) {
            return refused(-1);
        }
        return become(a, group.partsOfPlaces(k, way));
    }

    long heaps(int a) {
        return isIn(a, 0, 7) ? become(a, PlainGroup.numbers(group.oracle.heapsLed().parts())) : refused(-1);
    }

    private long becomeIfRoom(int a, BigInteger[] parts) {
        return places(parts).compareTo(MOST) > 0 ? refused(-5) : become(a, parts);
    }

    long both(int a, int b, int c, int way) {
        if (!isIn(a, 0, 7) || !isIn(way, 0, 1)) {
            return refused(-1);
        }
        if (!isAct(b) || !isAct(c)) {
            return refused(-2);
        }
        BigInteger[] parts = group.noParts();
        for (int d = 0; d < group.classes; d++) {
            for (int e = 0; e < group.classes && way == 1; e++) {
                BigInteger times = acts[b][d].multiply(acts[c][e]);
                for (int f = 0; f < group.classes && times.signum() != 0; f++) {
                    parts[f] = parts[f].add(times.multiply(group.partsOfPairs(d, e)[f]));
                }
            }
            parts[d] = way == 0 ? acts[b][d].add(acts[c][d]) : parts[d];
        }
        return becomeIfRoom(a, parts);
    }

    long colour(int a, int b, int k) {
        if (!isIn(a, 0, 7) || !isIn(k, 0, 100)) {
            return refused(-1);
        }
        if (!isAct(b)) {
            return refused(-2);
        }
        if (power(BigInteger.valueOf(k), places(acts[b])).compareTo(MOST) > 0) {
            return refused(-5);
        }
        BigInteger[] marks = group.noParts();
        for (int j = 0; j < group.classes; j++) {
            marks[j] = power(BigInteger.valueOf(k), rounds(acts[b], group.oracle.first.get(j)));
        }
        return become(a, group.partsOfMarks(marks));
    }

    /** Exponents that are too great to be written out stand for 10 to the 30 here. */
    private static BigInteger power(BigInteger base, BigInteger times) {
        if (times.signum() == 0 || base.equals(BigInteger.ONE)) {
            return BigInteger.ONE;
        }
        if (base.signum() == 0) {
            return BigInteger.ZERO;
        }
        return times.compareTo(BigInteger.valueOf(100)) > 0 ? BigInteger.TEN.pow(30) : base.pow(times.intValueExact());
    }

    long many(int a, int b, int k) {
        if (!isIn(a, 0, 7) || !isIn(k, 0, 1000000)) {
            return refused(-1);
        }
        if (!isAct(b)) {
            return refused(-2);
        }
        BigInteger[] parts = acts[b].clone();
        for (int c = 0; c < parts.length; c++) {
            parts[c] = parts[c].multiply(BigInteger.valueOf(k));
        }
        return becomeIfRoom(a, parts);
    }

    // ---- asking acts

    long parts(int a, int c) {
        return isAct(a) && isClass(c) ? acts[a][c].longValueExact() : NONE;
    }

    long mark(int a, int c) {
        return isAct(a) && isClass(c) ? markOf(acts[a], c).longValueExact() : NONE;
    }

    long act(int a, int what, int t) {
        if (!isAct(a) || ((what == 3 || what == 4) && !isTurn(t)) || (what == 5 && !isHeap(t))) {
            return NONE;
        }
        switch (what) {
            case 0: return places(acts[a]).longValueExact();
            case 1: return sum(acts[a], c -> 1).longValueExact();
            case 2: return idleHeap(acts[a]);
            case 3: return sum(acts[a], c -> group.cosets[c].leftByTurn(t)).longValueExact();
            case 4: return rounds(acts[a], group.madeBy(t)).longValueExact();
            case 5: return rounds(acts[a], t).longValueExact();
            default: return NONE;
        }
    }

    private int idleHeap(BigInteger[] parts) {
        BitSet idle = (BitSet) group.oracle.heaps.get(group.heaps - 1).clone();
        for (int c = 0; c < parts.length; c++) {
            if (parts[c].signum() != 0) {
                idle.and(group.oracle.heaps.get(group.cosets[c].idleHeap()));
            }
        }
        return group.oracle.heapNumber.get(idle);
    }

    int same(int a, int b) {
        if (!isAct(a) || !isAct(b)) {
            return refused(-2);
        }
        for (int c = 0; c < group.classes; c++) {
            if (!markOf(acts[a], c).equals(markOf(acts[b], c))) {
                return done(c);
            }
        }
        return done(NONE);
    }

    long maps(int a, int b, int way) {
        if (!isAct(a) || !isAct(b) || !isIn(way, 0, 1)) {
            return NONE;
        }
        if (way == 1 && !Arrays.equals(acts[a], acts[b])) {
            return 0;
        }
        BigInteger ways = BigInteger.ONE;
        for (int c = 0; c < group.classes; c++) {
            BigInteger each = way == 0 ? markOf(acts[b], c) : BigInteger.valueOf(group.table[c][c]);
            ways = ways.multiply(power(each, acts[a][c]));
            for (int i = 2; way == 1 && i <= Math.min(30, acts[a][c].longValueExact()); i++) {
                ways = ways.multiply(BigInteger.valueOf(i));
            }
        }
        return ways.compareTo(MOST) > 0 ? -5 : ways.longValueExact();
    }

    // ---- rows of numbers

    int row(long v) {
        if (v < -1000000000000L || v > 1000000000000L) {
            return refused(-1);
        }
        if (row.size() == group.classes) {
            return refused(-5);
        }
        row.add(v);
        return done(row.size());
    }

    int check(int a) {
        if (row.size() != group.classes) {
            return refused(-1);
        }
        long[] numbers = row.stream().mapToLong(v -> v).toArray();
        int[] judged = Oracle.judge(group.table, numbers);
        row = new ArrayList<>();
        misfit = judged[1];
        if (judged[0] == 2 && isIn(a, 0, 7)) {
            acts[a] = group.partsOfMarks(PlainGroup.numbers(numbers));
        }
        return done(judged[0]);
    }

    int misfit() {
        return misfit;
    }

    // ---- drawing turns at random

    long chance(int k, int what) {
        if (!isIn(k, 0, 6) || !isIn(what, 0, 1)) {
            return -1;
        }
        BigInteger upper = group.rowsThatMakeAll(k);
        BigInteger lower = BigInteger.valueOf(group.turns).pow(k);
        return (what == 0 ? upper : lower).divide(upper.gcd(lower)).longValueExact();
    }

    int rank() {
        int k = 0;
        while (group.rowsThatMakeAll(k).signum() == 0) {
            k++;
        }
        return k;
    }

    // ---- images

    int image(int k) {
        if (!isIn(k, 0, 2)) {
            return refused(-1);
        }
        images[k] = new Bench(group, new ArrayList<>(Arrays.asList(acts)), new ArrayList<>(row));
        return done(0);
    }

    int back(int k) {
        if (!isIn(k, 0, 2)) {
            return refused(-1);
        }
        if (images[k] == null) {
            return refused(-2);
        }
        group = images[k].group;
        acts = images[k].acts.toArray(new BigInteger[8][]);
        row = new ArrayList<>(images[k].row);
        return done(0);
    }

    int status() {
        return status;
    }
}
