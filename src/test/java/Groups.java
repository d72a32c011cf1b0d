import java.util.Set;
import java.util.TreeSet;

/** Groups at the edges of what there is room for, and what the terms say of heaps, worked out by plain calls. */
final class Groups {
    /** Five places in a round with factors, and all of three: 120 turns. */
    static final int[][] MOST_TURNS = {
        {1, 2, 3, 4, 0}, {0, 2, 4, 1, 3}, {0, 1, 2, 3, 4, 6, 7, 5}, {0, 1, 2, 3, 4, 6, 5}};
    /** Two squares that can change places: 128 turns. */
    static final int[][] MORE_TURNS = {{1, 2, 3, 0}, {2, 1, 0}, {4, 5, 6, 7, 0, 1, 2, 3}};
    /** 96 turns with 250 heaps. */
    static final int[][] MOST_HEAPS = {
        {1, 3, 2, 0, 6, 5, 7, 4}, {1, 2, 0, 3, 7, 5, 4, 6}, {3, 0, 1, 2, 6, 7, 5, 4}, {0, 2, 1, 3, 7, 5, 6, 4}};
    /** 16 turns with 67 heaps. */
    static final int[][] FOUR_PAIRS = {{1, 0}, {0, 1, 3, 2}, {0, 1, 2, 3, 5, 4}, {0, 1, 2, 3, 4, 5, 7, 6}};
    /** Two squares: 64 turns with 389 heaps. */
    static final int[][] MORE_HEAPS = {
        {1, 2, 3, 0}, {2, 1, 0}, {0, 1, 2, 3, 5, 6, 7, 4}, {0, 1, 2, 3, 6, 5, 4}};
    /** All of four and two pairs: 96 turns with 420 heaps. */
    static final int[][] MANY_MORE_HEAPS = {
        {1, 2, 3, 0}, {1, 0}, {0, 1, 2, 3, 5, 4}, {0, 1, 2, 3, 4, 5, 7, 6}};

    private Groups() {
    }

    /** The sheets that are not told by orders are missing then. */
    static void lay(MarkTables x, int[][] orders) {
        for (int s = 0; s < 4; s++) {
            if (s < orders.length) {
                Dues.lay(x, s, orders[s]);
            } else {
                x.sheet(s, 0, -1);
            }
        }
    }

    static MarkTables mostTurnsOfEight() {
        return Dues.groupOf(8, MOST_TURNS);
    }

    static MarkTables mostHeaps() {
        return Dues.groupOf(8, MOST_HEAPS);
    }

    static MarkTables quaternions() {
        return Dues.groupOf(8, Dues.order(1, 2, 3, 0, 5, 6, 7, 4), Dues.order(4, 7, 6, 5, 2, 1, 0, 3));
    }

    /** What can be asked of the group alone, as one text; of many heaps only some are asked. */
    static String view(MarkTables x) {
        StringBuilder text = new StringBuilder();
        text.append(x.count(0)).append(' ').append(x.simple()).append(' ').append(x.rank()).append('\n');
        for (int t = 0; t < x.count(1); t++) {
            for (int p = 0; p < x.count(0); p++) {
                text.append(x.turn(t, p));
            }
            for (int what = 0; what < 4; what++) {
                text.append(' ').append(x.ofTurn(t, what));
            }
            text.append(' ').append(x.product(t, x.count(1) - 1)).append('\n');
        }
        for (int h = 0; h < x.count(2); h += 1 + x.count(2) / 20) {
            for (int what = 0; what < 10; what++) {
                text.append(x.heap(h, what)).append(' ');
            }
            text.append(x.join(h, x.count(2) / 2, 0)).append(' ').append(x.join(h, x.count(2) / 2, 1)).append('\n');
        }
        for (int c = 0; c < x.count(3); c++) {
            for (int d = 0; d < x.count(3); d++) {
                text.append(x.table(c, d)).append(' ').append(x.within(c, d, 0)).append(' ');
            }
            text.append(x.ofClass(c, 1)).append('\n');
        }
        for (int k = 0; k <= 6; k++) {
            text.append(x.chance(k, 0)).append('/').append(x.chance(k, 1)).append(' ').append(x.down(k)).append(' ');
        }
        return text.append(x.sylow(2)).append(x.sylow(3)).toString();
    }

    static boolean hasAll(MarkTables x, int h, boolean[] turns) {
        for (int t = 0; t < turns.length; t++) {
            if (turns[t] && x.has(h, t) != 1) {
                return false;
            }
        }
        return true;
    }

    // ---- sets of turns of groups that have fewer than 63, as bits

    static long membersOf(MarkTables x, int h) {
        long set = 0;
        for (int t = 0; t < x.count(1); t++) {
            set |= (long) x.has(h, t) << t;
        }
        return set;
    }

    private static boolean isIn(long set, int t) {
        return ((set >> t) & 1) != 0;
    }

    static boolean isClosed(MarkTables x, long set) {
        for (int s = 0; s < x.count(1); s++) {
            for (int t = 0; t < x.count(1); t++) {
                if (isIn(set, s) && isIn(set, t) && !isIn(set, x.product(s, t))) {
                    return false;
                }
            }
        }
        return true;
    }

    /** Below 0 if heap h has fewer turns than k, or as many, and a lower one where their rows first differ. */
    static int compare(MarkTables x, int h, int k) {
        if (x.heap(h, 0) != x.heap(k, 0)) {
            return x.heap(h, 0) - x.heap(k, 0);
        }
        for (int t = 0; t < x.count(1); t++) {
            if (x.has(h, t) != x.has(k, t)) {
                return x.has(k, t) - x.has(h, t);
            }
        }
        return 0;
    }

    /** All heaps that some turn leads heap h to, as bits. */
    static long likeHeaps(MarkTables x, int h) {
        long like = 0;
        for (int g = 0; g < x.count(1); g++) {
            long led = 0;
            for (int t = 0; t < x.count(1); t++) {
                if (x.has(h, t) == 1) {
                    led |= 1L << x.product(x.product(x.ofTurn(g, 0), t), g);
                }
            }
            for (int k = 0; k < x.count(2); k++) {
                like |= membersOf(x, k) == led ? 1L << k : 0;
            }
        }
        return like;
    }

    /** The set, each turn of it times t. */
    static long times(MarkTables x, long set, int t) {
        long moved = 0;
        for (int s = 0; s < x.count(1); s++) {
            moved |= isIn(set, s) ? 1L << x.product(s, t) : 0;
        }
        return moved;
    }

    static Set<Long> cosetsOf(MarkTables x, int h) {
        Set<Long> cosets = new TreeSet<>();
        for (int g = 0; g < x.count(1); g++) {
            cosets.add(times(x, membersOf(x, h), g));
        }
        return cosets;
    }

    static boolean leaves(MarkTables x, long heap, long coset) {
        for (int t = 0; t < x.count(1); t++) {
            if (isIn(heap, t) && times(x, coset, t) != coset) {
                return false;
            }
        }
        return true;
    }
}
