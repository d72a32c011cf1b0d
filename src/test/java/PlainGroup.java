import java.math.BigInteger;
import java.util.ArrayList;
import java.util.Arrays;
import java.util.BitSet;
import java.util.HashMap;
import java.util.HashSet;
import java.util.List;
import java.util.Map;
import java.util.Set;
import java.util.stream.IntStream;

/** A group that is written out, with what acts on it are made of; each is worked out once. */
final class PlainGroup {
    private static final Map<List<Integer>, PlainGroup> KNOWN = new HashMap<>();

    final Oracle oracle;
    final int turns;
    final int heaps;
    final int classes;
    final int[] signs;
    final long[][] table;
    final Oracle.Act[] cosets;
    private final Map<List<Integer>, BigInteger[]> parts = new HashMap<>();
    private final int[][] rounds;
    private final int[] made;
    private int[][] grown;

    private PlainGroup(Oracle oracle) {
        this.oracle = oracle;
        turns = oracle.turns.size();
        heaps = oracle.heaps.size();
        classes = oracle.first.size();
        signs = oracle.signs();
        table = oracle.table();
        cosets = new Oracle.Act[classes];
        rounds = new int[classes][heaps];
        for (int c = 0; c < classes; c++) {
            cosets[c] = oracle.coset(c);
            Arrays.fill(rounds[c], -1);
        }
        made = new int[turns];
        for (int t = 0; t < turns; t++) {
            BitSet by = new BitSet();
            by.set(t);
            made[t] = oracle.heapNumber.get(oracle.made(by));
        }
    }

    /** The group, or null if there is no room for it. */
    static PlainGroup of(int n, int[][] orders) {
        List<Integer> key = new ArrayList<>(List.of(n));
        for (int[] order : orders) {
            Arrays.stream(order).forEach(key::add);
        }
        if (!KNOWN.containsKey(key)) {
            KNOWN.put(key, make(n, orders));
        }
        return KNOWN.get(key);
    }

    private static PlainGroup make(int n, int[][] orders) {
        if (!hasRoom(n, orders)) {
            return null;
        }
        Oracle oracle = new Oracle(n, orders);
        return oracle.heaps.size() > 300 ? null : new PlainGroup(oracle);
    }

    /** Whether the orders come to no more than 120 turns: all are put behind all until no more come. */
    private static boolean hasRoom(int n, int[][] orders) {
        Set<List<Integer>> found = new HashSet<>();
        found.add(IntStream.range(0, n).boxed().toList());
        int before = 0;
        while (before != found.size() && found.size() <= 120) {
            before = found.size();
            for (List<Integer> turn : List.copyOf(found)) {
                for (int[] order : orders) {
                    found.add(turn.stream().map(p -> order[p]).toList());
                }
            }
        }
        return found.size() <= 120;
    }

    IntStream all() {
        return IntStream.range(0, heaps);
    }

    int orderOf(int t) {
        int times = 1;
        for (int power = t; power != 0; power = oracle.product[power][t]) {
            times++;
        }
        return times;
    }

    int madeBy(int t) {
        return made[t];
    }

    int ledToBy(int t) {
        return (int) IntStream.range(0, turns).map(g -> oracle.ledBy(g, t)).distinct().count();
    }

    boolean isAlwaysTheOtherWayRound(int h) {
        BitSet heap = oracle.heaps.get(h);
        return heap.stream().allMatch(s -> heap.stream().allMatch(t -> oracle.product[s][t] == oracle.product[t][s]));
    }

    int rounds(int c, int h) {
        if (rounds[c][h] < 0) {
            rounds[c][h] = cosets[c].rounds(oracle.heaps.get(h));
        }
        return rounds[c][h];
    }

    BigInteger[] noParts() {
        return numbers(new long[classes]);
    }

    static BigInteger[] numbers(long[] row) {
        return Arrays.stream(row).mapToObj(BigInteger::valueOf).toArray(BigInteger[]::new);
    }

    BigInteger[] partsOfPlaces(int k, int way) {
        return parts.computeIfAbsent(List.of(k, way), key -> numbers(oracle.places(k, way).parts())).clone();
    }

    BigInteger[] partsOfPairs(int c, int d) {
        return parts.computeIfAbsent(List.of(c, d, 0), key -> numbers(oracle.pairs(cosets[c], cosets[d]).parts()));
    }

    /** Marks that are an act's, taken apart from the greatest class down. */
    BigInteger[] partsOfMarks(BigInteger[] marks) {
        BigInteger[] left = marks.clone();
        BigInteger[] found = noParts();
        for (int c = classes - 1; c >= 0; c--) {
            found[c] = left[c].divide(BigInteger.valueOf(table[c][c]));
            for (int d = 0; d <= c; d++) {
                left[d] = left[d].subtract(found[c].multiply(BigInteger.valueOf(table[c][d])));
            }
            if (left[c].signum() != 0 || found[c].signum() < 0) {
                throw new IllegalStateException("no marks of an act");
            }
        }
        return found;
    }

    /** How many rows of k turns make the group: how many come to each heap, one turn behind the other. */
    BigInteger rowsThatMakeAll(int k) {
        if (grown == null) {
            fillGrown();
        }
        BigInteger[] rows = numbers(new long[heaps]);
        rows[0] = BigInteger.ONE;
        for (int i = 0; i < k; i++) {
            BigInteger[] more = numbers(new long[heaps]);
            for (int h = 0; h < heaps; h++) {
                for (int t = 0; t < turns && rows[h].signum() != 0; t++) {
                    more[grown[h][t]] = more[grown[h][t]].add(rows[h]);
                }
            }
            rows = more;
        }
        return rows[heaps - 1];
    }

    private void fillGrown() {
        grown = new int[heaps][turns];
        for (int h = 0; h < heaps; h++) {
            for (int t = 0; t < turns; t++) {
                BitSet with = (BitSet) oracle.heaps.get(h).clone();
                with.set(t);
                grown[h][t] = oracle.heapNumber.get(oracle.made(with));
            }
        }
    }
}
