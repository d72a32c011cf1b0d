import java.util.ArrayList;
import java.util.List;
import java.util.Random;

/** Long runs of calls, drawn with fixed seeds: each answer is held against that of PlainTables. */
public final class RunsTest {
    private static final Dues DUES = new Dues("runs");
    private static final int RUNS = 240;
    private static final int CALLS = 512;
    private static final int[] FAR = {
        Integer.MIN_VALUE, -1000000, -256, -9, -6, -5, -4, -3, -2, -1, 8, 9, 10, 11, 64, 101, 120, 121, 256, 300, 301,
        65536, 1000000, 1000001, Integer.MAX_VALUE};
    private static final int[][][] GROUPS = {
        {{1, 0}}, {{1, 2, 0}, {1, 0}}, {{1, 2, 3, 0}, {1, 0}}, {{1, 2, 3, 0}, {2, 1, 0}}, {{1, 2, 0}, {1, 0, 3, 2}},
        {{1, 0, 3, 2}, {2, 3, 0, 1}}, {{1, 2, 3, 4, 0}, {0, 4, 3, 2, 1}}, {{1, 2, 3, 4, 0}, {0, 2, 4, 1, 3}},
        {{1, 2, 3, 4, 0}, {1, 2, 0}}, {{1, 2, 3, 4, 0}, {1, 0}}, {{1, 2, 0}, {1, 0}, {0, 1, 2, 4, 3}},
        {{1, 2, 3, 0}, {0, 1, 2, 3, 5, 6, 7, 4}}, {{1, 2, 3, 4, 5, 0}, {0, 5, 4, 3, 2, 1}}, {{1, 2, 3, 4, 5, 6, 7, 0}},
        {{1, 2, 0, 4, 5, 3}, {3, 4, 5, 0, 1, 2}, {1, 0, 2, 4, 3}}, {{1, 2, 3, 4, 5, 6, 0}, {0, 2, 4, 6, 1, 3, 5}},
        {{1, 2, 3, 0, 5, 6, 7, 4}, {4, 7, 6, 5, 2, 1, 0, 3}}, {{1, 2, 3, 4, 5, 6, 7, 0}, {0, 7, 6, 5, 4, 3, 2, 1}},
        {{1, 0, 3, 2, 5, 4, 7, 6}, {0, 2, 4, 6, 3, 1, 7, 5}}, {{1, 2, 3, 4, 5, 6, 0}, {0, 3, 6, 2, 5, 1, 4}},
        Groups.FOUR_PAIRS, Groups.MOST_TURNS, Groups.MOST_HEAPS, Groups.MORE_TURNS, Groups.MORE_HEAPS,
        Groups.MANY_MORE_HEAPS, {{1, 2, 3, 4, 5, 0}, {1, 0}}, {}};

    private final String name;
    private final Random random;
    private final MarkTables x = new MarkTables();
    private final PlainTables plain = new PlainTables();
    private final List<String> calls = new ArrayList<>();
    private boolean isWrong = false;

    private RunsTest(int seed) {
        name = "run " + seed;
        random = new Random(seed);
    }

    public static void main(String[] args) {
        for (int seed = 0; seed < RUNS; seed++) {
            new RunsTest(seed).run();
        }
        DUES.end();
    }

    private void run() {
        if (random.nextInt(8) != 0) {
            layGroup();
        }
        while (calls.size() < CALLS && !isWrong) {
            int kind = random.nextInt(100);
            if (kind < 2) {
                layGroup();
            } else if (kind < 8) {
                askSheets();
            } else if (kind < 12) {
                askRow();
            } else if (kind < 45) {
                askMaker(random.nextInt(8));
            } else if (kind < 70) {
                askAct(random.nextInt(7));
            } else {
                askGroup(random.nextInt(16));
            }
            if (random.nextInt(6) == 0) {
                due("status()", x.status(), plain.status());
            }
        }
        if (isWrong) {
            System.out.println(name + ": " + String.join(", ", calls));
        }
    }

    /** Behind a wrong answer the two go apart, so the run ends there, and is told. */
    private void due(String call, long got, long want) {
        calls.add(call);
        DUES.due(name + ", call " + calls.size() + ": " + call, got, want);
        isWrong |= got != want;
    }

    // ---- drawing arguments: most of them are such as can be

    private int number(int bound) {
        if (random.nextInt(25) == 0) {
            return random.nextBoolean() ? bound : FAR[random.nextInt(FAR.length)];
        }
        return random.nextInt(Math.max(1, bound));
    }

    /** The first three acts are used most, so that they are there. */
    private int act() {
        return random.nextInt(4) == 0 ? number(8) : random.nextInt(3);
    }

    private int aTurn() {
        return number(x.count(1));
    }

    private int aHeap() {
        return number(x.count(2));
    }

    private int aClass() {
        return number(x.count(3));
    }

    // ---- sheets, groups and images

    private void askSheet(int s, int sort, int n) {
        due("sheet(" + s + ", " + sort + ", " + n + ")", x.sheet(s, sort, n), plain.sheet(s, sort, n));
    }

    private void askWrite(int s, int i, int v) {
        due("write(" + s + ", " + i + ", " + v + ")", x.write(s, i, v), plain.write(s, i, v));
    }

    private void askGroupOf(int n) {
        due("group(" + n + ")", x.group(n), plain.group(n));
        int what = random.nextInt(6);
        due("count(" + what + ")", x.count(what), plain.count(what));
    }

    /** Numbers that are written may have other bits above those that count. */
    private void layGroup() {
        int[][] orders = GROUPS[random.nextInt(GROUPS.length)];
        int places = 1;
        for (int s = 0; s < 4; s++) {
            int[] order = s < orders.length ? orders[s] : new int[0];
            int sort = random.nextInt(3);
            askSheet(s, sort, order.length == 0 ? random.nextInt(2) - 1 : order.length);
            for (int i = 0; i < order.length; i++) {
                int above = random.nextInt(4) == 0 && sort < 2 ? random.nextInt(5) << (sort == 0 ? 8 : 16) : 0;
                askWrite(s, i, order[i] | above);
            }
            places = Math.max(places, order.length);
        }
        askGroupOf(Math.min(8, random.nextInt(3) == 0 ? places + 1 : places));
    }

    private void askSheets() {
        int s = number(4);
        int image = number(3);
        switch (random.nextInt(9)) {
            case 0:
                askSheet(s, number(3), number(9));
                break;
            case 1:
                askWrite(s, number(8), number(8));
                break;
            case 2:
                askGroupOf(random.nextInt(3) == 0 ? number(9) : Math.max(1, x.count(0)));
                break;
            case 3:
            case 4:
            case 5:
                due("image(" + image + ")", x.image(image), plain.image(image));
                break;
            default:
                due("back(" + image + ")", x.back(image), plain.back(image));
                break;
        }
    }

    // ---- rows

    private void askRow() {
        boolean isWhole = random.nextInt(3) != 0;
        int classes = x.count(3);
        int one = random.nextInt(classes);
        int other = random.nextInt(classes);
        int less = random.nextInt(3) - 1;
        int from = x.count(5);
        int to = isWhole ? classes : Math.min(classes, from + random.nextInt(3));
        for (int c = from; c < to; c++) {
            long v = 1000000000L * x.table(one, c) + (long) less * x.table(other, c);
            askNumber(random.nextInt(40) == 0 ? v + random.nextInt(5) - 2 : v);
        }
        if (random.nextInt(4) == 0) {
            askNumber(random.nextBoolean() ? random.nextLong() : 1000000000000L + random.nextInt(2));
        }
        int a = act();
        due("check(" + a + ")", x.check(a), plain.check(a));
        due("misfit()", x.misfit(), plain.misfit());
        due("count(5)", x.count(5), plain.count(5));
    }

    private void askNumber(long v) {
        due("row(" + v + ")", x.row(v), plain.row(v));
    }

    // ---- acts

    private void askMaker(int kind) {
        int a = act();
        int b = act();
        int c = kind == 0 ? aClass() : act();
        int way = number(2);
        int k = random.nextInt(3) == 0 ? number(x.count(0) + 1) : random.nextInt(3);
        int times = random.nextInt(5) == 0 ? number(1000001) : random.nextInt(4);
        switch (kind) {
            case 0:
            case 1:
                c = aClass();
                due("coset(" + a + ", " + c + ")", x.coset(a, c), plain.coset(a, c));
                break;
            case 2:
                k = way == 1 && x.count(1) > 24 ? Math.min(k, 4) : k;
                due("places(" + a + ", " + k + ", " + way + ")", x.places(a, k, way), plain.places(a, k, way));
                break;
            case 3:
                due("heaps(" + a + ")", x.heaps(a), plain.heaps(a));
                break;
            case 4:
                due("colour(" + a + ", " + b + ", " + k + ")", x.colour(a, b, k), plain.colour(a, b, k));
                break;
            case 5:
                due("many(" + a + ", " + b + ", " + times + ")", x.many(a, b, times), plain.many(a, b, times));
                break;
            default:
                due("both(" + a + ", " + b + ", " + c + ", " + way + ")",
                    x.both(a, b, c, way), plain.both(a, b, c, way));
                break;
        }
    }

    private void askAct(int kind) {
        int a = act();
        int b = act();
        int c = aClass();
        int way = number(2);
        int what = number(6);
        int t = what == 5 ? aHeap() : aTurn();
        switch (kind) {
            case 0:
                due("parts(" + a + ", " + c + ")", x.parts(a, c), plain.parts(a, c));
                break;
            case 1:
                due("mark(" + a + ", " + c + ")", x.mark(a, c), plain.mark(a, c));
                break;
            case 2:
                due("same(" + a + ", " + b + ")", x.same(a, b), plain.same(a, b));
                break;
            case 3:
                due("maps(" + a + ", " + b + ", " + way + ")", x.maps(a, b, way), plain.maps(a, b, way));
                break;
            case 4:
                due("maps(" + a + ", " + a + ", " + way + ")", x.maps(a, a, way), plain.maps(a, a, way));
                break;
            default:
                due("act(" + a + ", " + what + ", " + t + ")", x.act(a, what, t), plain.act(a, what, t));
                break;
        }
    }

    // ---- the group

    private void askGroup(int kind) {
        int way = number(2);
        int what = number(10);
        switch (kind) {
            case 0:
                due("count(" + what + ")", x.count(what), plain.count(what));
                break;
            case 1:
                int p = number(x.count(0));
                int t = aTurn();
                due("turn(" + t + ", " + p + ")", x.turn(t, p), plain.turn(t, p));
                break;
            case 2:
                askProduct(aTurn(), aTurn());
                break;
            case 3:
                askOfTurn(aTurn(), number(4));
                break;
            case 4:
            case 5:
            case 6:
                askHeap(aHeap(), what);
                break;
            case 7:
                askHas(aHeap(), aTurn());
                break;
            case 8:
                askJoin(aHeap(), aHeap(), way);
                break;
            default:
                askClasses(kind, aClass(), aClass(), way);
                break;
        }
    }

    private void askProduct(int s, int t) {
        due("product(" + s + ", " + t + ")", x.product(s, t), plain.product(s, t));
    }

    private void askOfTurn(int t, int what) {
        due("ofTurn(" + t + ", " + what + ")", x.ofTurn(t, what), plain.ofTurn(t, what));
    }

    private void askHeap(int h, int what) {
        due("heap(" + h + ", " + what + ")", x.heap(h, what), plain.heap(h, what));
    }

    private void askHas(int h, int t) {
        due("has(" + h + ", " + t + ")", x.has(h, t), plain.has(h, t));
    }

    private void askJoin(int h, int k, int way) {
        due("join(" + h + ", " + k + ", " + way + ")", x.join(h, k, way), plain.join(h, k, way));
    }

    private void askClasses(int kind, int c, int d, int way) {
        int small = number(11);
        switch (kind) {
            case 9:
                due("ofClass(" + c + ", " + way + ")", x.ofClass(c, way), plain.ofClass(c, way));
                break;
            case 10:
                due("within(" + c + ", " + d + ", " + way + ")", x.within(c, d, way), plain.within(c, d, way));
                break;
            case 11:
                due("table(" + c + ", " + d + ")", x.table(c, d), plain.table(c, d));
                break;
            case 12:
                due("sylow(" + small + ")", x.sylow(small), plain.sylow(small));
                break;
            case 13:
                due("down(" + small + ")", x.down(small), plain.down(small));
                break;
            case 14:
                int k = number(7);
                due("chance(" + k + ", " + way + ")", x.chance(k, way), plain.chance(k, way));
                break;
            default:
                due("simple()", x.simple(), plain.simple());
                due("rank()", x.rank(), plain.rank());
                due("misfit()", x.misfit(), plain.misfit());
                break;
        }
    }
}
