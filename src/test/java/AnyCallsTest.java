import java.util.Random;

/** Runs of calls with any arguments: none may throw, and a refused one may change nothing. */
public final class AnyCallsTest {
    private static final Dues DUES = new Dues("any calls");
    private static final int CALLS = 512;
    private static final int RUNS = 300;
    private static final int KINDS = 36;
    private static final int[] EDGES = {
        Integer.MIN_VALUE, Integer.MIN_VALUE + 1, -1000001, -9, -2, -1, 0, 1, 2, 3, 4, 5, 6, 7, 8, 9, 10, 11, 63, 64, 65, 100, 101, 119, 120, 121, 255, 256, 257, 299, 300, 301, 65536, 65537, 1000000,
        1000001, Integer.MAX_VALUE - 1, Integer.MAX_VALUE};
    private static final int[][] ORDERS = {{1, 0}, {1, 2, 0}, {1, 2, 3, 0}, {0, 1, 3, 2}, {2, 1, 0}, {1, 2, 3, 4, 0},
        {0, 1, 2, 3, 5, 4}, {1, 0, 3, 2, 5, 4, 7, 6}, {1, 2, 3, 4, 5, 6, 7, 0}, {0, 1, 2, 4, 3}, {}};

    private final Random random;
    private final MarkTables x = new MarkTables();

    private AnyCallsTest(long seed) {
        random = new Random(seed);
    }

    public static void main(String[] args) {
        for (int run = 0; run < RUNS; run++) {
            AnyCallsTest one = new AnyCallsTest(run);
            AnyCallsTest twin = new AnyCallsTest(run);
            one.run("run " + run, twin);
        }
        DUES.end();
    }

    /** A twin makes the same calls and is not looked at in between: its answers must be the same. */
    private void run(String name, AnyCallsTest twin) {
        String before = Dues.view(x);
        for (int i = 0; i < CALLS; i++) {
            int kind = nextKind();
            long got = call(kind);
            DUES.due(name + ", twin at call " + i, twin.call(twin.nextKind()), got);
            String after = Dues.view(x);
            boolean mayChange = kind < 20;
            if (!mayChange || (x.status() != 0 && got == x.status())) {
                DUES.isTrue(name + ", call " + i + " of kind " + kind + " changes nothing", before.equals(after));
            }
            before = after;
        }
        DUES.due(name + ", status of the twin", twin.x.status(), x.status());
    }

    private int nextKind() {
        return random.nextInt(3) == 0 ? random.nextInt(20) : random.nextInt(KINDS);
    }

    private int small() {
        return random.nextInt(12) == 0 ? EDGES[random.nextInt(EDGES.length)] : random.nextInt(5);
    }

    private int any() {
        return random.nextInt(3) == 0 ? EDGES[random.nextInt(EDGES.length)] : random.nextInt(12);
    }

    private int layOrder() {
        int s = random.nextInt(4);
        Dues.lay(x, s, ORDERS[random.nextInt(ORDERS.length)]);
        return s;
    }

    private int fillRow() {
        int classes = x.count(3);
        int rows = 0;
        for (int c = 0; c < classes; c++) {
            rows = 1000 + x.row(random.nextInt(4) == 0 ? x.table(random.nextInt(classes), c) : random.nextInt(7) - 3);
        }
        return rows;
    }

    private long call(int kind) {
        switch (kind) {
            case 0: return x.sheet(small(), small(), any());
            case 1: return x.write(small(), any(), any());
            case 2: return x.group(any());
            case 3: return layOrder();
            case 4: return x.group(4 + random.nextInt(5));
            case 5: return x.coset(small(), small());
            case 6: return x.places(small(), small(), random.nextInt(2));
            case 7: return x.heaps(small());
            case 8: return x.both(small(), small(), small(), random.nextInt(2));
            case 9: return x.both(any(), any(), any(), any());
            case 10: return x.colour(small(), small(), any());
            case 11: return x.many(small(), small(), any());
            case 12: return x.row(random.nextInt(9) == 0 ? random.nextLong() : random.nextInt(100));
            case 13: return fillRow();
            case 14: return x.check(small());
            case 15: return x.image(small());
            case 16: return x.back(small());
            case 17: return x.places(any(), any(), any());
            case 18: return x.coset(small(), random.nextInt(Math.max(1, x.count(3))));
            case 19: return x.many(small(), small(), 2);
            default: return ask(kind);
        }
    }

    private long ask(int kind) {
        switch (kind) {
            case 20: return x.count(any());
            case 21: return x.turn(any(), any());
            case 22: return x.product(any(), any());
            case 23: return x.ofTurn(any(), small());
            case 24: return x.heap(any(), any());
            case 25: return x.has(any(), any());
            case 26: return x.join(any(), any(), small());
            case 27: return x.ofClass(any(), small());
            case 28: return x.within(any(), any(), small());
            case 29: return x.table(any(), any());
            case 30: return x.sylow(any()) + 1000L * x.down(any()) + 1000000L * x.simple();
            case 31: return x.parts(small(), any()) * 31 + x.mark(small(), any());
            case 32: return x.act(small(), any(), any());
            case 33: return x.same(small(), small());
            case 34: return x.maps(small(), small(), random.nextInt(2));
            default: return x.chance(any(), small()) + 31L * x.rank() + 101L * x.misfit() + 1009L * x.status();
        }
    }
}
