import java.math.BigInteger;
import java.util.ArrayList;
import java.util.Arrays;
import java.util.BitSet;
import java.util.HashMap;
import java.util.HashSet;
import java.util.List;
import java.util.Map;
import java.util.Set;
import java.util.TreeSet;

/** The document's terms by writing out every set: slow, and plain to check against. */
final class Oracle {
    final int n;
    final List<List<Integer>> turns = new ArrayList<>();
    final int[][] product;
    final int[] inverse;
    final List<BitSet> heaps = new ArrayList<>();
    final Map<BitSet, Integer> heapNumber = new HashMap<>();
    final int[] classOf;
    final List<Integer> first = new ArrayList<>();

    Oracle(int n, int[][] orders) {
        this.n = n;
        gatherTurns(orders);
        int g = turns.size();
        Map<List<Integer>, Integer> number = new HashMap<>();
        for (int t = 0; t < g; t++) {
            number.put(turns.get(t), t);
        }
        product = new int[g][g];
        inverse = new int[g];
        for (int s = 0; s < g; s++) {
            for (int t = 0; t < g; t++) {
                product[s][t] = number.get(behind(turns.get(s), turns.get(t)));
                if (product[s][t] == 0) {
                    inverse[s] = t;
                }
            }
        }
        gatherHeaps();
        classOf = new int[heaps.size()];
        gatherClasses();
    }

    static int[] whole(int n, int[] order) {
        int[] all = new int[n];
        for (int p = 0; p < n; p++) {
            all[p] = p < order.length ? order[p] : p;
        }
        return all;
    }

    private static List<Integer> behind(List<Integer> s, List<Integer> t) {
        List<Integer> both = new ArrayList<>();
        for (int p : s) {
            both.add(t.get(p));
        }
        return both;
    }

    private static int compareRows(List<Integer> a, List<Integer> b) {
        for (int i = 0; i < Math.min(a.size(), b.size()); i++) {
            if (!a.get(i).equals(b.get(i))) {
                return Integer.compare(a.get(i), b.get(i));
            }
        }
        return Integer.compare(a.size(), b.size());
    }

    private static List<Integer> rowOf(int[] numbers) {
        List<Integer> row = new ArrayList<>();
        for (int v : numbers) {
            row.add(v);
        }
        return row;
    }

    private void gatherTurns(int[][] orders) {
        TreeSet<List<Integer>> found = new TreeSet<>(Oracle::compareRows);
        List<List<Integer>> open = new ArrayList<>();
        open.add(rowOf(whole(n, new int[0])));
        found.add(open.get(0));
        while (!open.isEmpty()) {
            List<Integer> turn = open.remove(open.size() - 1);
            for (int[] order : orders) {
                List<Integer> next = behind(turn, rowOf(whole(n, order)));
                if (found.add(next)) {
                    open.add(next);
                }
            }
        }
        turns.addAll(found);
    }

    BitSet made(BitSet by) {
        BitSet all = new BitSet();
        all.set(0);
        List<Integer> open = new ArrayList<>(List.of(0));
        while (!open.isEmpty()) {
            int t = open.remove(open.size() - 1);
            for (int m = by.nextSetBit(0); m >= 0; m = by.nextSetBit(m + 1)) {
                int next = product[t][m];
                if (!all.get(next)) {
                    all.set(next);
                    open.add(next);
                }
            }
        }
        return all;
    }

    private static BitSet with(BitSet heap, int t) {
        BitSet more = (BitSet) heap.clone();
        more.set(t);
        return more;
    }

    private void gatherHeaps() {
        BitSet none = new BitSet();
        none.set(0);
        Set<BitSet> found = new HashSet<>();
        List<BitSet> open = new ArrayList<>();
        found.add(none);
        open.add(none);
        while (!open.isEmpty()) {
            BitSet heap = open.remove(open.size() - 1);
            for (int t = 0; t < turns.size(); t++) {
                if (!heap.get(t)) {
                    BitSet more = made(with(heap, t));
                    if (found.add(more)) {
                        open.add(more);
                    }
                }
            }
        }
        heaps.addAll(found);
        heaps.sort((a, b) -> a.cardinality() != b.cardinality()
            ? Integer.compare(a.cardinality(), b.cardinality())
            : compareRows(rowOf(a.stream().toArray()), rowOf(b.stream().toArray())));
        for (int h = 0; h < heaps.size(); h++) {
            heapNumber.put(heaps.get(h), h);
        }
    }

    int ledBy(int g, int t) {
        return product[product[inverse[g]][t]][g];
    }

    BitSet led(BitSet heap, int g) {
        BitSet to = new BitSet();
        heap.stream().forEach(t -> to.set(ledBy(g, t)));
        return to;
    }

    private void gatherClasses() {
        Arrays.fill(classOf, -1);
        for (int h = 0; h < heaps.size(); h++) {
            if (classOf[h] < 0) {
                for (int g = 0; g < turns.size(); g++) {
                    classOf[heapNumber.get(led(heaps.get(h), g))] = first.size();
                }
                first.add(h);
            }
        }
    }

    boolean liesIn(int h, int k) {
        BitSet left = (BitSet) heaps.get(h).clone();
        left.andNot(heaps.get(k));
        return left.isEmpty();
    }

    boolean isNormal(int h) {
        int alike = 0;
        for (int c : classOf) {
            alike += c == classOf[h] ? 1 : 0;
        }
        return alike == 1;
    }

    int normaliser(int h) {
        BitSet keep = new BitSet();
        for (int g = 0; g < turns.size(); g++) {
            if (led(heaps.get(h), g).equals(heaps.get(h))) {
                keep.set(g);
            }
        }
        return heapNumber.get(keep);
    }

    int normalWithin(int h) {
        int best = 0;
        for (int k = 0; k < heaps.size(); k++) {
            if (isNormal(k) && liesIn(k, h) && heaps.get(k).cardinality() > heaps.get(best).cardinality()) {
                best = k;
            }
        }
        return best;
    }

    int derived(int h) {
        BitSet twists = new BitSet();
        heaps.get(h).stream().forEach(s -> heaps.get(h).stream().forEach(
            t -> twists.set(product[product[product[s][t]][inverse[s]]][inverse[t]])));
        return heapNumber.get(made(twists));
    }

    int[] signs() {
        int[] sign = new int[heaps.size()];
        for (int h = heaps.size() - 1; h >= 0; h--) {
            sign[h] = h == heaps.size() - 1 ? 1 : 0;
            for (int k = h + 1; k < heaps.size(); k++) {
                sign[h] -= liesIn(h, k) ? sign[k] : 0;
            }
        }
        return sign;
    }

    /** How many rows of k turns make the group, by writing them all out. */
    long rowsThatMakeAll(int k) {
        return rowsFrom(heaps.get(0), k, new HashMap<>());
    }

    private long rowsFrom(BitSet heap, int k, Map<String, Long> known) {
        if (k == 0) {
            return heap.cardinality() == turns.size() ? 1 : 0;
        }
        String key = heapNumber.get(heap) + " " + k;
        Long before = known.get(key);
        if (before != null) {
            return before;
        }
        long rows = 0;
        for (int t = 0; t < turns.size(); t++) {
            rows += rowsFrom(made(with(heap, t)), k - 1, known);
        }
        known.put(key, rows);
        return rows;
    }

    /** An act written out: where each turn leads each place. */
    final class Act {
        final int[][] to;
        final int places;

        Act(int places, int[][] to) {
            this.places = places;
            this.to = to;
        }

        int left(int h) {
            int found = 0;
            for (int p = 0; p < places; p++) {
                int place = p;
                found += heaps.get(h).stream().allMatch(t -> to[t][place] == place) ? 1 : 0;
            }
            return found;
        }

        int leftByTurn(int t) {
            int found = 0;
            for (int p = 0; p < places; p++) {
                found += to[t][p] == p ? 1 : 0;
            }
            return found;
        }

        int[] roundOf(BitSet by) {
            int[] round = new int[places];
            Arrays.fill(round, -1);
            int rounds = 0;
            for (int p = 0; p < places; p++) {
                if (round[p] < 0) {
                    for (int t = by.nextSetBit(0); t >= 0; t = by.nextSetBit(t + 1)) {
                        round[to[t][p]] = rounds;
                    }
                    rounds++;
                }
            }
            return round;
        }

        int rounds(BitSet by) {
            return Arrays.stream(roundOf(by)).max().orElse(-1) + 1;
        }

        long[] parts() {
            long[] parts = new long[first.size()];
            int[] round = roundOf(heaps.get(heaps.size() - 1));
            int next = 0;
            for (int p = 0; p < places; p++) {
                if (round[p] == next) {
                    BitSet keep = new BitSet();
                    for (int t = 0; t < turns.size(); t++) {
                        keep.set(t, to[t][p] == p);
                    }
                    parts[classOf[heapNumber.get(keep)]]++;
                    next++;
                }
            }
            return parts;
        }

        int idleHeap() {
            BitSet keep = new BitSet();
            for (int t = 0; t < turns.size(); t++) {
                keep.set(t, leftByTurn(t) == places);
            }
            return heapNumber.get(keep);
        }
    }

    /** An act on any things, told by where a turn leads a thing. */
    interface Leading<T> {
        T lead(T thing, int t);
    }

    <T> Act actOn(List<T> things, Leading<T> how) {
        Map<T, Integer> number = new HashMap<>();
        for (T thing : things) {
            number.put(thing, number.size());
        }
        int[][] to = new int[turns.size()][things.size()];
        for (int t = 0; t < turns.size(); t++) {
            for (int p = 0; p < things.size(); p++) {
                to[t][p] = number.get(how.lead(things.get(p), t));
            }
        }
        return new Act(things.size(), to);
    }

    Act coset(int c) {
        Set<BitSet> sets = new HashSet<>();
        for (int g = 0; g < turns.size(); g++) {
            sets.add(timesTurn(heaps.get(first.get(c)), g));
        }
        return actOn(new ArrayList<>(sets), this::timesTurn);
    }

    private BitSet timesTurn(BitSet set, int t) {
        BitSet to = new BitSet();
        set.stream().forEach(s -> to.set(product[s][t]));
        return to;
    }

    Act places(int k, int way) {
        List<List<Integer>> rows = new ArrayList<>();
        addRows(rows, new ArrayList<>(), k, way);
        return actOn(rows, (row, t) -> {
            List<Integer> to = new ArrayList<>();
            for (int p : row) {
                to.add(turns.get(t).get(p));
            }
            if (way == 0) {
                to.sort(Integer::compare);
            }
            return to;
        });
    }

    private void addRows(List<List<Integer>> rows, List<Integer> row, int k, int way) {
        if (row.size() == k) {
            rows.add(new ArrayList<>(row));
            return;
        }
        for (int p = 0; p < n; p++) {
            boolean goesOn = way == 1 ? !row.contains(p) : row.isEmpty() || row.get(row.size() - 1) < p;
            if (goesOn) {
                row.add(p);
                addRows(rows, row, k, way);
                row.remove(row.size() - 1);
            }
        }
    }

    Act heapsLed() {
        return actOn(heaps, this::led);
    }

    Act beside(Act b, Act c) {
        int[][] to = new int[turns.size()][b.places + c.places];
        for (int t = 0; t < turns.size(); t++) {
            for (int p = 0; p < b.places + c.places; p++) {
                to[t][p] = p < b.places ? b.to[t][p] : b.places + c.to[t][p - b.places];
            }
        }
        return new Act(b.places + c.places, to);
    }

    Act pairs(Act b, Act c) {
        int[][] to = new int[turns.size()][b.places * c.places];
        for (int t = 0; t < turns.size(); t++) {
            for (int p = 0; p < b.places; p++) {
                for (int q = 0; q < c.places; q++) {
                    to[t][p * c.places + q] = b.to[t][p] * c.places + c.to[t][q];
                }
            }
        }
        return new Act(b.places * c.places, to);
    }

    /** All ways to write one of k numbers to each of so many places. */
    static List<List<Integer>> colourings(int places, int k) {
        List<List<Integer>> rows = new ArrayList<>();
        rows.add(List.of());
        for (int p = 0; p < places; p++) {
            List<List<Integer>> longer = new ArrayList<>();
            for (List<Integer> row : rows) {
                for (int v = 0; v < k; v++) {
                    List<Integer> more = new ArrayList<>(row);
                    more.add(v);
                    longer.add(more);
                }
            }
            rows = longer;
        }
        return rows;
    }

    Act colour(Act b, int k) {
        return actOn(colourings(b.places, k), (colouring, t) -> {
            Integer[] to = new Integer[b.places];
            for (int p = 0; p < b.places; p++) {
                to[b.to[t][p]] = colouring.get(p);
            }
            return Arrays.asList(to);
        });
    }

    /** Maps from a to b, by trying all; only for very small acts. */
    long maps(Act a, Act b, int way) {
        long found = 0;
        for (List<Integer> map : colourings(a.places, b.places)) {
            boolean fits = way == 0 || (a.places == b.places && new HashSet<>(map).size() == b.places);
            for (int t = 0; fits && t < turns.size(); t++) {
                for (int p = 0; fits && p < a.places; p++) {
                    fits = map.get(a.to[t][p]) == b.to[t][map.get(p)];
                }
            }
            found += fits ? 1 : 0;
        }
        return found;
    }

    /** The table of marks, by leaving places of cosets. */
    long[][] table() {
        long[][] table = new long[first.size()][first.size()];
        for (int c = 0; c < first.size(); c++) {
            Act coset = coset(c);
            for (int d = 0; d < first.size(); d++) {
                table[c][d] = coset.left(first.get(d));
            }
        }
        return table;
    }

    /** What check() and misfit() answer to a row. */
    static int[] judge(long[][] table, long[] row) {
        int classes = row.length;
        BigInteger[] left = new BigInteger[classes];
        for (int c = 0; c < classes; c++) {
            left[c] = BigInteger.valueOf(row[c]);
        }
        int below = -1;
        for (int c = classes - 1; c >= 0; c--) {
            BigInteger[] parts = left[c].divideAndRemainder(BigInteger.valueOf(table[c][c]));
            if (parts[1].signum() != 0) {
                return new int[] {0, c};
            }
            if (parts[0].signum() < 0 && below < 0) {
                below = c;
            }
            for (int d = 0; d < classes; d++) {
                left[d] = left[d].subtract(parts[0].multiply(BigInteger.valueOf(table[c][d])));
            }
        }
        return below < 0 ? new int[] {2, -1} : new int[] {1, below};
    }
}
