import java.math.BigInteger;
import java.util.ArrayList;
import java.util.BitSet;
import java.util.List;
import java.util.Random;

/** Groups and acts against the Oracle: named groups, and groups of orders drawn with a fixed seed. */
public final class OracleTest {
    private static final Dues DUES = new Dues("oracle");
    private static final Random RANDOM = new Random(20261116);

    private final String name;
    private final Oracle oracle;
    private final MarkTables x;
    private final int turns;
    private final int heaps;
    private final int classes;

    private OracleTest(String name, int n, int[][] orders) {
        this.name = name;
        oracle = new Oracle(n, orders);
        x = Dues.groupOf(n, orders);
        turns = oracle.turns.size();
        heaps = oracle.heaps.size();
        classes = oracle.first.size();
    }

    public static void main(String[] args) {
        new OracleTest("one", 1, new int[0][]).testAll();
        new OracleTest("none of eight", 8, new int[0][]).testAll();
        new OracleTest("all of three", 3, new int[][] {{1, 2, 0}, {1, 0}}).testAll();
        new OracleTest("all of four", 4, new int[][] {{1, 2, 3, 0}, {1, 0}}).testAll();
        new OracleTest("even of five", 5, new int[][] {{1, 2, 3, 4, 0}, {1, 2, 0}}).testAll();
        new OracleTest("all of five", 5, new int[][] {{1, 2, 3, 4, 0}, {1, 0}}).testAll();
        new OracleTest("five in six", 6, new int[][] {{0, 2, 3, 4, 5, 1}, {5, 4, 2, 3, 1, 0}}).testAll();
        new OracleTest("four pairs", 8,
            new int[][] {{1, 0}, {0, 1, 3, 2}, {0, 1, 2, 3, 5, 4}, {0, 1, 2, 3, 4, 5, 7, 6}}).testAll();
        new OracleTest("square and pairs", 8,
            new int[][] {{1, 2, 3, 0}, {2, 1, 0}, {0, 1, 2, 3, 5, 4}, {0, 1, 2, 3, 4, 5, 7, 6}}).testAll();
        new OracleTest("four and a round", 8,
            new int[][] {{1, 2, 3, 0}, {1, 0}, {0, 1, 2, 3, 5, 6, 7, 4}}).testAll();
        new OracleTest("threes and a pair", 8,
            new int[][] {{1, 2, 0, 4, 5, 3}, {1, 0}, {0, 1, 2, 4, 3}, {0, 1, 2, 3, 4, 5, 7, 6}}).testAll();
        new OracleTest("quaternions", 8,
            new int[][] {{1, 2, 3, 0, 5, 6, 7, 4}, {4, 7, 6, 5, 2, 1, 0, 3}}).testAll();
        new OracleTest("seven with factors", 7, new int[][] {{1, 2, 3, 4, 5, 6, 0}, {0, 3, 6, 2, 5, 1, 4}}).testAll();
        new OracleTest("eight with factors", 8,
            new int[][] {{1, 0, 3, 2, 5, 4, 7, 6}, {0, 2, 4, 6, 3, 1, 7, 5}}).testAll();
        new OracleTest("most turns", 8, Groups.MOST_TURNS).testAll();
        new OracleTest("most heaps", 8, Groups.MOST_HEAPS).testAll();
        for (int i = 0; i < 60; i++) {
            drawn(i).testAll();
        }
        tooMany();
        DUES.end();
    }

    /** Orders are drawn until the group is one that fits. */
    private static OracleTest drawn(int i) {
        while (true) {
            int n = 2 + RANDOM.nextInt(7);
            int[][] orders = new int[1 + RANDOM.nextInt(4)][];
            for (int s = 0; s < orders.length; s++) {
                orders[s] = drawnOrder(n);
            }
            MarkTables x = Dues.groupOf(n, orders);
            if (x.status() == 0) {
                return new OracleTest("drawn " + i, n, orders);
            }
        }
    }

    /** A few swaps, as orders of many places come to too many turns together. */
    private static int[] drawnOrder(int n) {
        int[] order = Oracle.whole(n, new int[0]);
        for (int swaps = 1 + RANDOM.nextInt(4); swaps > 0; swaps--) {
            int p = RANDOM.nextInt(n);
            int q = RANDOM.nextInt(n);
            int v = order[p];
            order[p] = order[q];
            order[q] = v;
        }
        return order;
    }

    /** Groups that are refused have too many heaps, if they have not too many turns. */
    private static void tooMany() {
        int[][][] groups = {Groups.MORE_HEAPS, Groups.MANY_MORE_HEAPS};
        int[] heaps = {389, 420};
        for (int i = 0; i < groups.length; i++) {
            Oracle oracle = new Oracle(8, groups[i]);
            DUES.isTrue("few turns", oracle.turns.size() <= 120);
            DUES.due("many heaps", oracle.heaps.size(), heaps[i]);
            DUES.due("refused", Dues.groupOf(8, groups[i]).status(), -5);
        }
    }

    private void due(String what, long got, long want) {
        DUES.due(name + ", " + what, got, want);
    }

    private void testAll() {
        due("turns", x.count(1), turns);
        due("heaps", x.count(2), heaps);
        due("classes", x.count(3), classes);
        testTurns();
        testHeaps();
        testPairs();
        testClasses();
        testSylow();
        testDraws();
        testActs();
        testRows();
    }

    private void testTurns() {
        for (int t = 0; t < turns; t++) {
            for (int p = 0; p < oracle.n; p++) {
                due("turn", x.turn(t, p), oracle.turns.get(t).get(p));
            }
            for (int s = 0; s < turns; s++) {
                due("product", x.product(s, t), oracle.product[s][t]);
            }
            BitSet by = new BitSet();
            by.set(t);
            BitSet kin = new BitSet();
            for (int g = 0; g < turns; g++) {
                kin.set(oracle.ledBy(g, t));
            }
            due("inverse", x.ofTurn(t, 0), oracle.inverse[t]);
            due("order", x.ofTurn(t, 1), oracle.made(by).cardinality());
            due("makes", x.ofTurn(t, 2), oracle.heapNumber.get(oracle.made(by)));
            due("kin", x.ofTurn(t, 3), kin.cardinality());
        }
    }

    private void testHeaps() {
        int[] signs = oracle.signs();
        int normal = 0;
        for (int h = 0; h < heaps; h++) {
            int below = 0;
            int above = 0;
            for (int k = 0; k < heaps; k++) {
                below += oracle.liesIn(k, h) ? 1 : 0;
                above += oracle.liesIn(h, k) ? 1 : 0;
            }
            normal += oracle.isNormal(h) ? 1 : 0;
            long[] want = {oracle.heaps.get(h).cardinality(), oracle.classOf[h], oracle.isNormal(h) ? 1 : 0,
                oracle.normaliser(h), oracle.normalWithin(h), oracle.derived(h), signs[h],
                oracle.derived(h) == 0 ? 1 : 0, below, above};
            for (int what = 0; what < want.length; what++) {
                due("heap " + h + " what " + what, x.heap(h, what), want[what]);
            }
            for (int t = 0; t < turns; t++) {
                due("has", x.has(h, t), oracle.heaps.get(h).get(t) ? 1 : 0);
            }
        }
        due("simple", x.simple(), normal == 2 ? 1 : 0);
        int left = heaps - 1;
        for (int k = 0; k <= 10; k++) {
            due("down", x.down(k), left);
            left = oracle.derived(left);
        }
    }

    private void testPairs() {
        for (int i = 0; i < 300; i++) {
            int h = RANDOM.nextInt(heaps);
            int k = RANDOM.nextInt(heaps);
            BitSet inBoth = (BitSet) oracle.heaps.get(h).clone();
            inBoth.and(oracle.heaps.get(k));
            BitSet inOne = (BitSet) oracle.heaps.get(h).clone();
            inOne.or(oracle.heaps.get(k));
            due("in both", x.join(h, k, 0), oracle.heapNumber.get(inBoth));
            due("over both", x.join(h, k, 1), oracle.heapNumber.get(oracle.made(inOne)));
        }
    }

    private void testClasses() {
        long[][] table = oracle.table();
        for (int c = 0; c < classes; c++) {
            int one = oracle.first.get(c);
            int[] below = new int[classes];
            int[] above = new int[classes];
            int number = 0;
            for (int h = 0; h < heaps; h++) {
                number += oracle.classOf[h] == c ? 1 : 0;
                below[oracle.classOf[h]] += oracle.liesIn(h, one) ? 1 : 0;
                above[oracle.classOf[h]] += oracle.liesIn(one, h) ? 1 : 0;
            }
            due("size", x.ofClass(c, 0), oracle.heaps.get(one).cardinality());
            due("number", x.ofClass(c, 1), number);
            due("first", x.ofClass(c, 2), one);
            for (int d = 0; d < classes; d++) {
                due("below", x.within(c, d, 0), below[d]);
                due("above", x.within(c, d, 1), above[d]);
                due("table", x.table(c, d), table[c][d]);
            }
        }
    }

    private void testSylow() {
        for (int p : new int[] {2, 3, 5, 7}) {
            int power = 1;
            while (turns % (power * p) == 0) {
                power *= p;
            }
            int found = -1;
            for (int h = 0; h < heaps && found < 0; h++) {
                found = oracle.heaps.get(h).cardinality() == power ? oracle.classOf[h] : -1;
            }
            due("sylow " + p, x.sylow(p), found);
        }
    }

    private void testDraws() {
        int most = turns <= 30 && heaps <= 80 ? 6 : 2;
        int rank = -1;
        for (int k = 0; k <= most; k++) {
            BigInteger upper = BigInteger.valueOf(oracle.rowsThatMakeAll(k));
            BigInteger lower = BigInteger.valueOf(turns).pow(k);
            BigInteger shared = upper.gcd(lower);
            due("upper " + k, x.chance(k, 0), upper.divide(shared).longValueExact());
            due("lower " + k, x.chance(k, 1), lower.divide(shared).longValueExact());
            rank = rank < 0 && upper.signum() > 0 ? k : rank;
        }
        if (rank >= 0) {
            due("rank", x.rank(), rank);
        }
    }

    private void testAct(String what, int a, Oracle.Act act) {
        String told = "act of " + what + ": ";
        long[] parts = act.parts();
        long all = 0;
        for (int c = 0; c < classes; c++) {
            due(told + "parts " + c, x.parts(a, c), parts[c]);
            due(told + "mark " + c, x.mark(a, c), act.left(oracle.first.get(c)));
            all += parts[c];
        }
        due(told + "places", x.act(a, 0, -1), act.places);
        due(told + "all parts", x.act(a, 1, -1), all);
        due(told + "idle heap", x.act(a, 2, -1), act.idleHeap());
        for (int t = 0; t < turns; t += 1 + turns / 12) {
            BitSet by = new BitSet();
            by.set(t);
            due(told + "left", x.act(a, 3, t), act.leftByTurn(t));
            due(told + "rounds", x.act(a, 4, t), act.rounds(oracle.made(by)));
        }
        for (int h = 0; h < heaps; h += 1 + heaps / 12) {
            due(told + "sets", x.act(a, 5, h), act.rounds(oracle.heaps.get(h)));
        }
    }

    private void testActs() {
        List<Oracle.Act> acts = new ArrayList<>();
        int c = RANDOM.nextInt(classes);
        acts.add(oracle.coset(c));
        due("coset", x.coset(0, c), acts.get(0).places);
        int k = RANDOM.nextInt(oracle.n + 1);
        acts.add(oracle.places(k, 0));
        due("sets", x.places(1, k, 0), acts.get(1).places);
        k = RANDOM.nextInt(Math.min(oracle.n, 4) + 1);
        acts.add(oracle.places(k, 1));
        due("rows", x.places(2, k, 1), acts.get(2).places);
        acts.add(oracle.heapsLed());
        due("heaps act", x.heaps(3), acts.get(3).places);
        int b = RANDOM.nextInt(4);
        int d = RANDOM.nextInt(4);
        acts.add(oracle.beside(acts.get(b), acts.get(d)));
        due("beside", x.both(4, b, d, 0), acts.get(4).places);
        acts.add(oracle.pairs(acts.get(0), acts.get(1)));
        due("pairs", x.both(5, 0, 1, 1), acts.get(5).places);
        Oracle.Act last = oracle.coset(classes - 1 - RANDOM.nextInt(Math.min(classes, 4)));
        int times = last.places > 4 ? 1 : 2;
        acts.add(times == 1 ? last : oracle.beside(last, last));
        x.coset(6, classOfCoset(last));
        due("many", x.many(6, 6, times), acts.get(6).places);
        int colours = acts.get(6).places <= 6 ? 3 : acts.get(6).places <= 10 ? 2 : 1;
        acts.add(oracle.colour(acts.get(6), colours));
        due("colour", x.colour(7, 6, colours), acts.get(7).places);
        String[] names = {"coset", "sets", "rows", "heaps", "both", "pairs", "many", "colour"};
        for (int a = 0; a < 8; a++) {
            testAct(names[a], a, acts.get(a));
            for (int e = 0; e < 8; e++) {
                testTwo(a, e, acts.get(a), acts.get(e));
            }
        }
    }

    private int classOfCoset(Oracle.Act act) {
        long[] parts = act.parts();
        int c = 0;
        while (parts[c] == 0) {
            c++;
        }
        return c;
    }

    private void testTwo(int a, int b, Oracle.Act one, Oracle.Act other) {
        int parted = -1;
        for (int c = classes - 1; c >= 0; c--) {
            int h = oracle.first.get(c);
            parted = one.left(h) != other.left(h) ? c : parted;
        }
        due("same", x.same(a, b), parted);
        if (Math.pow(Math.max(1, other.places), one.places) <= 5000) {
            due("maps", x.maps(a, b, 0), oracle.maps(one, other, 0));
            due("maps on to all", x.maps(a, b, 1), oracle.maps(one, other, 1));
        }
    }

    private void testRows() {
        long[][] table = oracle.table();
        for (int i = 0; i < 60; i++) {
            long[] row = i % 3 == 0 ? anyRow() : i % 3 == 1 ? greatRowThatFits() : rowNearMarks(table);
            int[] want = Oracle.judge(table, row);
            Dues.fillRow(x, row);
            due("check", x.check(0), want[0]);
            due("misfit", x.misfit(), want[1]);
            for (int c = 0; want[0] == 2 && c < classes; c++) {
                due("marks of the row", x.mark(0, c), row[c]);
            }
        }
    }

    private long[] anyRow() {
        long[] row = new long[classes];
        for (int c = 0; c < classes; c++) {
            row[c] = RANDOM.nextLong() % 1000000000001L;
        }
        return row;
    }

    /** Numbers that how many turns there are divides always fit, so sums go on to the end. */
    private long[] greatRowThatFits() {
        long most = 1000000000000L / turns * turns;
        long[] row = new long[classes];
        for (int c = 0; c < classes; c++) {
            row[c] = RANDOM.nextBoolean() ? most : -most;
        }
        return row;
    }

    private long[] rowNearMarks(long[][] table) {
        long[] row = new long[classes];
        int least = RANDOM.nextBoolean() ? 0 : -1;
        for (int c = 0; c < classes; c++) {
            long part = RANDOM.nextInt(4) == 0 ? least + RANDOM.nextInt(1000000) : 0;
            for (int d = 0; d < classes; d++) {
                row[d] += part * table[c][d];
            }
        }
        if (RANDOM.nextInt(4) == 0) {
            row[RANDOM.nextInt(classes)] += RANDOM.nextInt(7) - 3;
        }
        return row;
    }
}
