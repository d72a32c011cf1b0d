/** At least one test for each promise of the document: ordinary inputs, edges, wrong inputs. */
public final class PromisesTest {
    private static final int LOW = Integer.MIN_VALUE;
    private static final int HIGH = Integer.MAX_VALUE;
    private static final long MOST = 1000000000000000L;
    private static final int NO_HEAP = -1000000;
    private static final Dues DUES = new Dues("promises");

    private static void due(int promise, String what, long got, long want) {
        DUES.due("promise " + promise + ", " + what, got, want);
    }

    /** A call that is refused: its answer, and the status behind it. */
    private static void refused(int promise, String what, MarkTables x, long got, int code) {
        due(promise, what, got, code);
        due(36, "status behind " + what, x.status(), code);
    }

    private static void stays(int promise, String what, MarkTables x, String before) {
        DUES.isTrue("promise " + promise + ", all stays behind " + what, before.equals(Dues.view(x)));
    }

    public static void main(String[] args) {
        newObject();
        sheetTold();
        writeTold();
        groupTold();
        groupRefused();
        countTold();
        turnsTold();
        heapTold();
        heapOfFour();
        hasAndJoinTold();
        classesTold();
        sylowTold();
        downAndSimpleTold();
        cosetTold();
        placesTold();
        heapsTold();
        bothTold();
        bothAtTheEdge();
        colourTold();
        manyTold();
        partsAndMarkTold();
        actTold();
        sameTold();
        mapsTold();
        mapsAtTheEdge();
        rowTold();
        checkTold();
        checkAtTheEdge();
        misfitTold();
        chanceTold();
        rankTold();
        imagesTold();
        imagesOfManyGroups();
        statusTold();
        statusOfAsking();
        DUES.end();
    }

    private static void newObject() {
        MarkTables x = new MarkTables();
        due(1, "places", x.count(0), 1);
        due(1, "turns", x.count(1), 1);
        due(1, "heaps", x.count(2), 1);
        due(1, "classes", x.count(3), 1);
        due(1, "acts", x.count(4), 0);
        due(1, "row", x.count(5), 0);
        due(1, "status", x.status(), 0);
        due(1, "misfit", x.misfit(), -1);
        for (int s = 0; s < 4; s++) {
            refused(1, "sheet missing", x, x.write(s, 0, 0), -2);
        }
        due(1, "turn", x.turn(0, 0), 0);
        due(1, "heap size", x.heap(0, 0), 1);
        due(1, "normaliser", x.heap(0, 3), 0);
        due(1, "derived", x.heap(0, 5), 0);
        due(1, "sign", x.heap(0, 6), 1);
        due(1, "rank", x.rank(), 0);
        due(1, "table", x.table(0, 0), 1);
        due(1, "places act", x.places(0, 1, 1), 1);
        due(1, "heaps act", x.heaps(1), 1);
        due(1, "product", x.product(0, 0), 0);
        due(1, "inverse", x.ofTurn(0, 0), 0);
        due(1, "order", x.ofTurn(0, 1), 1);
        due(1, "group of one", x.group(1), 1);
    }

    private static void sheetTold() {
        MarkTables x = new MarkTables();
        due(2, "length 0", x.sheet(0, 0, 0), 0);
        due(2, "length 8", x.sheet(3, 2, 8), 8);
        refused(2, "sheet below", x, x.sheet(-1, 0, 1), -1);
        refused(2, "sheet above", x, x.sheet(4, 0, 1), -1);
        refused(2, "sort below", x, x.sheet(0, -1, 1), -1);
        refused(2, "sort above", x, x.sheet(0, 3, 1), -1);
        refused(2, "length above", x, x.sheet(0, 0, 9), -1);
        refused(2, "length far above", x, x.sheet(0, 0, HIGH), -1);
        refused(2, "-1 is ahead of -4", x, x.sheet(0, 7, -1), -1);
        due(2, "that left the sheet", x.write(3, 7, 7), 0);
        refused(2, "length below", x, x.sheet(3, 2, LOW), -4);
        due(2, "status", x.status(), -4);
        refused(2, "then it is missing", x, x.write(3, 7, 7), -2);
        Dues.lay(x, 0, 1, 0);
        due(2, "numbers are 0 anew", x.sheet(0, 1, 2), 2);
        refused(2, "two 0 are no order", x, x.group(2), -6);
        due(2, "one number 0", x.sheet(0, 0, 1), 1);
        due(2, "is an order", x.group(2), 1);
    }

    private static void writeTold() {
        MarkTables x = new MarkTables();
        refused(3, "no sheet", x, x.write(-1, 0, 0), -1);
        refused(3, "no sheet", x, x.write(4, 99, 0), -1);
        refused(3, "missing", x, x.write(0, 99, 0), -2);
        x.sheet(0, 0, 2);
        refused(3, "beyond", x, x.write(0, 2, 0), -3);
        due(3, "status", x.status(), -3);
        refused(3, "ahead", x, x.write(0, -1, 0), -3);
        due(3, "written", x.write(0, 0, 257), 0);
        due(3, "status", x.status(), 0);
        due(3, "a byte of 257 is 1", x.group(2), 2);
        x.write(0, 0, 255);
        refused(3, "a byte of 255 is below 0", x, x.group(2), -6);
        x.sheet(0, 1, 2);
        x.write(0, 0, 257);
        refused(3, "a short of 257 is none", x, x.group(2), -6);
        x.write(0, 0, 65537);
        due(3, "a short of 65537 is 1", x.group(2), 2);
        x.sheet(0, 2, 2);
        x.write(0, 0, 65537);
        refused(3, "an int of 65537 is none", x, x.group(2), -6);
        x.write(0, 0, 1);
        due(3, "an int of 1", x.group(2), 2);
        x.sheet(1, 0, 0);
        refused(3, "an empty sheet has no place", x, x.write(1, 0, 0), -3);
    }

    private static void groupTold() {
        MarkTables x = Dues.threePlaces();
        due(4, "turns", x.count(1), 6);
        Dues.lay(x, 0, 1, 0, 7, -5);
        Dues.lay(x, 1);
        x.coset(0, 0);
        x.row(1);
        due(4, "at most n numbers", x.group(2), 2);
        due(4, "acts are missing", x.count(4), 0);
        due(4, "the row is empty", x.count(5), 0);
        refused(4, "more of them", x, x.group(3), -6);
        Dues.lay(x, 0, 1, 0);
        due(4, "places beyond stay", x.group(8), 2);
        due(4, "places", x.count(0), 8);
        due(4, "beyond", x.turn(1, 7), 7);
        Dues.lay(x, 3, 0, 1, 3, 2);
        due(4, "by the last sheet, too", x.group(4), 4);
        x.sheet(3, 0, -1);
        due(4, "without the missing one", x.group(4), 2);
        Dues.lay(x, 0, 1, 2, 3, 4, 5, 6, 7, 0);
        due(4, "eight places in a round", x.group(8), 8);
        due(4, "heaps of it", x.count(2), 4);
        Dues.lay(x, 0, 1, 2, 3, 4, 5, 6, 0);
        Dues.lay(x, 1, 0, 3, 6, 2, 5, 1, 4);
        due(4, "seven places and their factors", x.group(7), 42);
        due(4, "heaps of it", x.count(2), 1 + 7 + 7 + 7 + 1 + 1 + 1 + 1);
        due(4, "five places", Dues.fivePlaces().count(1), 120);
    }

    private static void groupRefused() {
        MarkTables x = Dues.threePlaces();
        x.coset(0, 1);
        x.row(5);
        String before = Dues.view(x);
        refused(4, "no places", x, x.group(0), -1);
        refused(4, "too many places", x, x.group(9), -1);
        refused(4, "far off", x, x.group(LOW), -1);
        Dues.lay(x, 0, 1, 2, 3, 4, 5, 0);
        refused(4, "beyond 120 turns", x, x.group(6), -5);
        due(4, "status", x.status(), -5);
        stays(4, "too many turns", x, before);
        Dues.lay(x, 3, 0, 0);
        refused(4, "-6 is looked at first", x, x.group(6), -6);
        stays(4, "no order", x, before);
        Dues.lay(x, 3, 0, 3);
        refused(4, "a number that is no place", x, x.group(3), -6);
        Dues.lay(x, 3, 0, 2);
        refused(4, "a place that stays is taken", x, x.group(3), -6);
        Dues.lay(x, 0, 1, 2, 3, 0);
        Dues.lay(x, 1, 2, 1, 0);
        Dues.lay(x, 2, 0, 1, 2, 3, 5, 6, 7, 4);
        Dues.lay(x, 3, 0, 1, 2, 3, 6, 5, 4);
        refused(4, "64 turns with too many heaps", x, x.group(8), -5);
        stays(4, "too many heaps", x, before);
        Dues.lay(x, 2, 0, 1, 2, 3, 5, 4);
        Dues.lay(x, 3, 0, 1, 2, 3, 4, 5, 7, 6);
        due(4, "32 turns", x.group(8), 32);
        due(4, "with 158 heaps", x.count(2), 158);
    }

    private static void countTold() {
        MarkTables x = Dues.fourPlaces();
        int[] want = {4, 24, 30, 11, 0, 0};
        for (int what = 0; what < 6; what++) {
            due(5, "count " + what, x.count(what), want[what]);
        }
        x.coset(3, 0);
        x.coset(3, 1);
        x.coset(7, 1);
        x.row(4);
        due(5, "acts", x.count(4), 2);
        due(5, "row", x.count(5), 1);
        due(5, "others", x.count(6), -1);
        due(5, "others", x.count(-1), -1);
    }

    private static void turnsTold() {
        MarkTables x = Dues.threePlaces();
        int[][] turns = {{0, 1, 2}, {0, 2, 1}, {1, 0, 2}, {1, 2, 0}, {2, 0, 1}, {2, 1, 0}};
        for (int t = 0; t < 6; t++) {
            for (int p = 0; p < 3; p++) {
                due(6, "turn " + t + " of " + p, x.turn(t, p), turns[t][p]);
                for (int s = 0; s < 6; s++) {
                    int st = x.product(s, t);
                    due(7, s + " first, then " + t, x.turn(st, p), turns[t][turns[s][p]]);
                }
            }
        }
        int[][] wrong = {{-1, 0}, {6, 0}, {0, -1}, {LOW, 0}, {HIGH, HIGH}};
        for (int[] w : wrong) {
            due(6, "no such turn or place", x.turn(w[0], w[1]), -1);
            due(7, "no such turn", x.product(w[0], w[1]), -1);
            due(8, "no such turn or what", x.ofTurn(w[0], w[1]), -1);
        }
        due(6, "no such place", x.turn(0, 3), -1);
        due(7, "no such turn", x.product(0, 6), -1);
        int[] inverse = {0, 1, 2, 4, 3, 5};
        int[] order = {1, 2, 2, 3, 3, 2};
        int[] makes = {0, 1, 2, 4, 4, 3};
        int[] kin = {1, 3, 3, 2, 2, 3};
        for (int t = 0; t < 6; t++) {
            due(8, "inverse of " + t, x.ofTurn(t, 0), inverse[t]);
            due(8, "order of " + t, x.ofTurn(t, 1), order[t]);
            due(8, "heap of " + t, x.ofTurn(t, 2), makes[t]);
            due(8, "kin of " + t, x.ofTurn(t, 3), kin[t]);
        }
        due(8, "no such what", x.ofTurn(0, 4), -1);
    }

    private static void heapTold() {
        MarkTables x = Dues.threePlaces();
        int[][] want = {
            {1, 0, 1, 5, 0, 0, 3, 1, 1, 6},
            {2, 1, 0, 1, 0, 0, -1, 1, 2, 2},
            {2, 1, 0, 2, 0, 0, -1, 1, 2, 2},
            {2, 1, 0, 3, 0, 0, -1, 1, 2, 2},
            {3, 2, 1, 5, 4, 0, -1, 1, 2, 2},
            {6, 3, 1, 5, 5, 4, 1, 0, 6, 1}};
        for (int h = 0; h < 6; h++) {
            for (int what = 0; what < 10; what++) {
                due(9, "heap " + h + " what " + what, x.heap(h, what), want[h][what]);
            }
        }
        due(9, "no such heap", x.heap(6, 0), NO_HEAP);
        due(9, "no such heap", x.heap(-1, 0), NO_HEAP);
        due(9, "no such what", x.heap(0, 10), NO_HEAP);
        due(9, "no such what", x.heap(0, -1), NO_HEAP);
        due(9, "neither", x.heap(LOW, HIGH), NO_HEAP);
    }

    private static void heapOfFour() {
        MarkTables x = Dues.fourPlaces();
        int all = 29;
        int even = 28;
        due(9, "size", x.heap(even, 0), 12);
        due(9, "sign of what four even places lack", x.heap(0, 6), -12);
        int four = x.heap(even, 5);
        due(9, "size of that", x.heap(four, 0), 4);
        due(9, "it is normal", x.heap(four, 2), 1);
        due(9, "it commutes", x.heap(four, 7), 1);
        for (int h = 25; h < 28; h++) {
            due(9, "size", x.heap(h, 0), 8);
            due(9, "leads itself", x.heap(h, 3), h);
            due(9, "normal within", x.heap(h, 4), four);
            due(9, "heaps in it", x.heap(h, 8), 10);
            due(9, "it lies in", x.heap(h, 9), 2);
        }
        due(9, "derived of all", x.heap(all, 5), even);
        due(9, "sign of five even places", Dues.evenFive().heap(0, 6), -60);
        due(9, "heaps of five even places", Dues.evenFive().count(2), 59);
    }

    private static void hasAndJoinTold() {
        MarkTables x = Dues.threePlaces();
        int[][] members = {{0}, {0, 1}, {0, 2}, {0, 5}, {0, 3, 4}, {0, 1, 2, 3, 4, 5}};
        for (int h = 0; h < 6; h++) {
            for (int t = 0; t < 6; t++) {
                int in = 0;
                for (int m : members[h]) {
                    in = m == t ? 1 : in;
                }
                due(10, "heap " + h + " has " + t, x.has(h, t), in);
            }
            for (int k = 0; k < 6; k++) {
                boolean within = k == 0 || h == 5 || h == k;
                boolean over = h == 0 || k == 5;
                due(11, "in both " + h + " and " + k, x.join(h, k, 0), within ? k : over ? h : 0);
                due(11, "over both " + h + " and " + k, x.join(h, k, 1), within ? h : over ? k : 5);
            }
        }
        due(10, "no heap", x.has(6, 0), -1);
        due(10, "no heap", x.has(-1, 0), -1);
        due(10, "no turn", x.has(0, 6), -1);
        due(10, "no turn", x.has(0, -1), -1);
        due(11, "no heap", x.join(6, 0, 0), -1);
        due(11, "no heap", x.join(0, 6, 1), -1);
        due(11, "no heap", x.join(-1, LOW, 1), -1);
        due(11, "no way", x.join(0, 0, 2), -1);
        due(11, "no way", x.join(0, 0, -1), -1);
    }

    private static void classesTold() {
        MarkTables x = Dues.threePlaces();
        int[][] ofClass = {{1, 1, 0}, {2, 3, 1}, {3, 1, 4}, {6, 1, 5}};
        int[][] below = {{1, 0, 0, 0}, {1, 1, 0, 0}, {1, 0, 1, 0}, {1, 3, 1, 1}};
        int[][] above = {{1, 3, 1, 1}, {0, 1, 0, 1}, {0, 0, 1, 1}, {0, 0, 0, 1}};
        int[][] table = {{6, 0, 0, 0}, {3, 1, 0, 0}, {2, 0, 2, 0}, {1, 1, 1, 1}};
        for (int c = 0; c < 4; c++) {
            for (int what = 0; what < 3; what++) {
                due(12, "class " + c + " what " + what, x.ofClass(c, what), ofClass[c][what]);
            }
            for (int d = 0; d < 4; d++) {
                due(13, c + " below " + d, x.within(c, d, 0), below[c][d]);
                due(13, c + " above " + d, x.within(c, d, 1), above[c][d]);
                due(14, c + " table " + d, x.table(c, d), table[c][d]);
            }
        }
        int[][] wrong = {{-1, 0}, {4, 0}, {LOW, HIGH}};
        for (int[] w : wrong) {
            due(12, "wrong", x.ofClass(w[0], w[1]), -1);
            due(13, "wrong", x.within(w[0], w[1], 0), -1);
            due(13, "wrong", x.within(w[1], w[0], 1), -1);
            due(14, "wrong", x.table(w[0], w[1]), -1);
            due(14, "wrong", x.table(w[1], w[0]), -1);
        }
        due(12, "no what", x.ofClass(0, 3), -1);
        due(12, "no what", x.ofClass(0, -1), -1);
        due(13, "no way", x.within(0, 0, 2), -1);
        due(13, "no way", x.within(0, 0, -1), -1);
    }

    private static void sylowTold() {
        MarkTables x = Dues.fivePlaces();
        int[] size = {8, 3, 5, 1};
        int[] number = {15, 10, 6, 1};
        int[] prime = {2, 3, 5, 7};
        for (int i = 0; i < 4; i++) {
            int c = x.sylow(prime[i]);
            due(15, "size for " + prime[i], x.ofClass(c, 0), size[i]);
            due(15, "number for " + prime[i], x.ofClass(c, 1), number[i]);
        }
        due(15, "none for 7", x.sylow(7), 0);
        for (int p : new int[] {0, 1, 4, 6, 8, 9, 11, -2, LOW, HIGH}) {
            due(15, "no such prime " + p, x.sylow(p), -1);
        }
        due(15, "whole", Dues.groupOf(7, Dues.order(1, 2, 3, 4, 5, 6, 0)).sylow(7), 1);
    }

    private static void downAndSimpleTold() {
        MarkTables x = Dues.fourPlaces();
        int[] sizes = {24, 12, 4, 1, 1};
        for (int k = 0; k < sizes.length; k++) {
            due(16, "size of step " + k, x.heap(x.down(k), 0), sizes[k]);
        }
        due(16, "last step", x.down(10), 0);
        due(16, "no step", x.down(11), -1);
        due(16, "no step", x.down(-1), -1);
        due(16, "stays whole", Dues.evenFive().down(10), 58);
        due(17, "four places", x.simple(), 0);
        due(17, "five even places", Dues.evenFive().simple(), 1);
        due(17, "five places have three", Dues.fivePlaces().simple(), 0);
        due(17, "two places", Dues.groupOf(2, Dues.order(1, 0)).simple(), 1);
        due(17, "one place has one", new MarkTables().simple(), 0);
        due(17, "four in a round", Dues.groupOf(4, Dues.order(1, 2, 3, 0)).simple(), 0);
    }

    private static void cosetTold() {
        MarkTables x = Dues.threePlaces();
        long[] size = {6, 3, 2, 1};
        for (int c = 0; c < 4; c++) {
            due(18, "places of " + c, x.coset(c, c), size[c]);
            for (int d = 0; d < 4; d++) {
                due(18, "parts", x.parts(c, d), c == d ? 1 : 0);
                due(18, "marks", x.mark(c, d), x.table(c, d));
            }
        }
        String before = Dues.view(x);
        refused(18, "no act", x, x.coset(8, 0), -1);
        refused(18, "no act", x, x.coset(-1, 9), -1);
        refused(18, "no class", x, x.coset(0, 4), -2);
        refused(18, "no class", x, x.coset(0, -1), -2);
        due(18, "status", x.status(), -2);
        stays(18, "no class", x, before);
    }

    private static void placesTold() {
        MarkTables x = Dues.threePlaces();
        long[] sets = {1, 3, 3, 1};
        long[] rows = {1, 3, 6, 6};
        int[] setPart = {3, 1, 1, 3};
        int[] rowPart = {3, 1, 0, 0};
        for (int k = 0; k < 4; k++) {
            due(19, "sets of " + k, x.places(0, k, 0), sets[k]);
            due(19, "one part", x.act(0, 1, 0), 1);
            due(19, "it is", x.parts(0, setPart[k]), 1);
            due(19, "rows of " + k, x.places(1, k, 1), rows[k]);
            due(19, "one part", x.act(1, 1, 0), 1);
            due(19, "it is", x.parts(1, rowPart[k]), 1);
        }
        String before = Dues.view(x);
        refused(19, "no act", x, x.places(8, 0, 0), -1);
        refused(19, "no act", x, x.places(-1, 0, 0), -1);
        refused(19, "k above", x, x.places(0, 4, 0), -1);
        refused(19, "k below", x, x.places(0, -1, 1), -1);
        refused(19, "no way", x, x.places(0, 1, 2), -1);
        refused(19, "no way", x, x.places(0, 1, -1), -1);
        stays(19, "wrong inputs", x, before);
        MarkTables two = Dues.groupOf(8, Dues.order(1, 0));
        due(19, "sets of 4 of 8", two.places(0, 4, 0), 70);
        due(19, "left", two.mark(0, 1), 15 + 15);
        due(19, "rows of 8", two.places(0, 8, 1), 40320);
        due(19, "none left", two.mark(0, 1), 0);
        due(19, "rows of 6", two.places(0, 6, 1), 20160);
        due(19, "left", two.mark(0, 1), 720);
    }

    private static void heapsTold() {
        MarkTables x = Dues.threePlaces();
        due(20, "heaps", x.heaps(2), 6);
        long[] parts = {0, 1, 0, 3};
        for (int c = 0; c < 4; c++) {
            due(20, "parts " + c, x.parts(2, c), parts[c]);
        }
        due(20, "left by a turn of three", x.act(2, 3, 3), 3);
        refused(20, "no act", x, x.heaps(8), -1);
        refused(20, "no act", x, x.heaps(-1), -1);
        due(20, "status", x.status(), -1);
        MarkTables five = Dues.fivePlaces();
        due(20, "heaps of five places", five.heaps(0), 156);
        due(20, "in 19 parts", five.act(0, 1, 0), 19);
    }

    private static void bothTold() {
        MarkTables x = Dues.threePlaces();
        x.coset(0, 1);
        x.coset(1, 2);
        due(21, "side by side", x.both(2, 0, 1, 0), 5);
        due(21, "parts", x.parts(2, 1), 1);
        due(21, "parts", x.parts(2, 2), 1);
        due(21, "mark", x.mark(2, 2), 2);
        due(21, "pairs", x.both(3, 0, 1, 1), 6);
        due(21, "parts", x.parts(3, 0), 1);
        due(21, "on itself", x.both(0, 0, 0, 1), 9);
        due(21, "parts", x.parts(0, 0), 1);
        due(21, "parts", x.parts(0, 1), 1);
        due(21, "on itself", x.both(0, 0, 0, 0), 18);
        due(21, "parts", x.parts(0, 1), 2);
        String before = Dues.view(x);
        refused(21, "no act", x, x.both(8, 9, 9, 0), -1);
        refused(21, "no act", x, x.both(-1, 0, 0, 0), -1);
        refused(21, "no way", x, x.both(0, 7, 7, 2), -1);
        refused(21, "no way", x, x.both(0, 0, 0, -1), -1);
        refused(21, "missing b", x, x.both(0, 7, 0, 0), -2);
        refused(21, "missing c", x, x.both(0, 0, 7, 1), -2);
        refused(21, "b is none", x, x.both(0, -1, 0, 1), -2);
        refused(21, "c is none", x, x.both(0, 0, 8, 1), -2);
        due(21, "status", x.status(), -2);
        stays(21, "wrong inputs", x, before);
    }

    private static void bothAtTheEdge() {
        MarkTables x = new MarkTables();
        x.coset(0, 0);
        x.many(0, 0, 1000000);
        x.many(0, 0, 1000000);
        due(21, "10 to the 12", x.act(0, 0, 0), 1000000000000L);
        x.coset(1, 0);
        x.many(1, 1, 1000);
        due(21, "just 10 to the 15", x.both(2, 0, 1, 1), MOST);
        x.coset(3, 0);
        refused(21, "one more", x, x.both(4, 2, 3, 0), -5);
        due(21, "status", x.status(), -5);
        due(21, "it is missing", x.count(4), 4);
        refused(21, "times two", x, x.both(3, 2, 1, 1), -5);
        due(21, "nothing is changed", x.act(3, 0, 0), 1);
        due(21, "times one", x.both(3, 2, 3, 1), MOST);
        refused(21, "times all", x, x.both(4, 2, 2, 1), -5);
        due(21, "none of it", x.many(5, 2, 0), 0);
        due(21, "times none", x.both(4, 2, 5, 1), 0);
        due(21, "none times", x.both(4, 5, 2, 1), 0);
        due(21, "none beside", x.both(4, 5, 2, 0), MOST);
    }

    private static void colourTold() {
        MarkTables x = Dues.fourPlaces();
        x.places(0, 1, 0);
        due(22, "two colours", x.colour(1, 0, 2), 16);
        due(22, "up to turning", x.act(1, 1, 0), 5);
        due(22, "three colours", x.colour(1, 0, 3), 81);
        due(22, "up to turning", x.act(1, 1, 0), 15);
        due(22, "hundred colours", x.colour(1, 0, 100), 100000000);
        due(22, "up to turning", x.act(1, 1, 0), 4421275);
        due(22, "one colour", x.colour(1, 0, 1), 1);
        due(22, "no colour", x.colour(1, 0, 0), 0);
        due(22, "no colour for none", x.colour(1, 1, 0), 1);
        x.many(1, 0, 0);
        due(22, "colours for none", x.colour(1, 1, 7), 1);
        due(22, "that is left by all", x.mark(1, 10), 1);
        x.coset(2, 0);
        x.both(2, 2, 2, 0);
        due(22, "48 places", x.colour(3, 2, 2), 1L << 48);
        x.places(4, 0, 0);
        x.both(4, 4, 2, 0);
        due(22, "49 places", x.colour(3, 4, 2), 1L << 49);
        x.both(4, 4, 0, 0);
        String before = Dues.view(x);
        refused(22, "53 places", x, x.colour(3, 4, 2), -5);
        due(22, "status", x.status(), -5);
        refused(22, "no act", x, x.colour(8, 9, 0), -1);
        refused(22, "no act", x, x.colour(-1, 0, 0), -1);
        refused(22, "colours below", x, x.colour(0, 7, -1), -1);
        refused(22, "colours above", x, x.colour(0, 0, 101), -1);
        refused(22, "missing", x, x.colour(0, 7, 1), -2);
        refused(22, "none", x, x.colour(0, -1, 1), -2);
        stays(22, "wrong inputs", x, before);
        due(22, "on itself", x.colour(0, 0, 2), 16);
        MarkTables one = new MarkTables();
        one.coset(0, 0);
        one.many(1, 0, 15);
        due(22, "just 10 to the 15", one.colour(2, 1, 10), MOST);
        due(22, "as many parts", one.act(2, 1, 0), MOST);
        due(22, "above", one.colour(2, 1, 11), -5);
        due(22, "of very many", one.colour(3, 2, 2), -5);
        due(22, "of very many", one.colour(3, 2, 1), 1);
    }

    private static void manyTold() {
        MarkTables x = Dues.threePlaces();
        x.coset(0, 1);
        due(23, "three times", x.many(1, 0, 3), 9);
        due(23, "parts", x.parts(1, 1), 3);
        due(23, "mark", x.mark(1, 1), 3);
        due(23, "on itself, a million times", x.many(1, 1, 1000000), 9000000);
        due(23, "no times", x.many(2, 1, 0), 0);
        due(23, "no parts", x.act(2, 1, 0), 0);
        due(23, "it is there", x.count(4), 3);
        x.many(1, 1, 1000000);
        String before = Dues.view(x);
        refused(23, "far too many", x, x.many(3, 1, 1000000), -5);
        refused(23, "too many", x, x.many(1, 1, 112), -5);
        due(23, "status", x.status(), -5);
        refused(23, "k above", x, x.many(1, 7, 1000001), -1);
        refused(23, "k below", x, x.many(1, 1, -1), -1);
        refused(23, "no act", x, x.many(8, 1, 1), -1);
        refused(23, "no act", x, x.many(-1, 1, 1), -1);
        refused(23, "missing", x, x.many(0, 7, 1), -2);
        refused(23, "none", x, x.many(0, 8, 1), -2);
        stays(23, "wrong inputs", x, before);
        due(23, "nearly as many as there may be", x.many(1, 1, 111), 999000000000000L);
        MarkTables one = new MarkTables();
        one.coset(0, 0);
        one.many(0, 0, 1000000);
        one.many(0, 0, 1000000);
        due(23, "as many as there may be", one.many(1, 0, 1000), MOST);
        due(23, "more", one.many(1, 0, 1001), -5);
        due(23, "it stays", one.act(1, 0, 0), MOST);
    }

    private static void partsAndMarkTold() {
        MarkTables x = Dues.threePlaces();
        due(24, "missing", x.parts(0, 0), -1);
        due(25, "missing", x.mark(0, 0), -1);
        x.coset(0, 2);
        long[] marks = {2, 0, 2, 0};
        for (int c = 0; c < 4; c++) {
            due(24, "parts", x.parts(0, c), c == 2 ? 1 : 0);
            due(25, "mark", x.mark(0, c), marks[c]);
        }
        int[][] wrong = {{-1, 0}, {8, 0}, {1, 0}, {0, -1}, {0, 4}, {LOW, HIGH}};
        for (int[] w : wrong) {
            due(24, "wrong", x.parts(w[0], w[1]), -1);
            due(25, "wrong", x.mark(w[0], w[1]), -1);
        }
    }

    private static void actTold() {
        MarkTables x = Dues.threePlaces();
        x.coset(0, 2);
        x.coset(1, 1);
        x.both(2, 0, 1, 0);
        due(26, "places", x.act(2, 0, LOW), 5);
        due(26, "parts", x.act(2, 1, HIGH), 2);
        due(26, "idle heap", x.act(2, 2, -1), 0);
        due(26, "idle heap of two", x.act(0, 2, 0), 4);
        long[] left = {5, 1, 1, 2, 2, 1};
        long[] rounds = {5, 3, 3, 3, 3, 3};
        long[] sets = {5, 3, 3, 3, 3, 2};
        for (int i = 0; i < 6; i++) {
            due(26, "left by turn " + i, x.act(2, 3, i), left[i]);
            due(26, "rounds of turn " + i, x.act(2, 4, i), rounds[i]);
            due(26, "sets of heap " + i, x.act(2, 5, i), sets[i]);
        }
        for (int what = 3; what < 6; what++) {
            due(26, "no such turn or heap", x.act(2, what, 6), -1);
            due(26, "no such turn or heap", x.act(2, what, -1), -1);
        }
        due(26, "no what", x.act(2, 6, 0), -1);
        due(26, "no what", x.act(2, -1, 0), -1);
        due(26, "missing", x.act(3, 0, 0), -1);
        due(26, "none", x.act(8, 0, 0), -1);
        due(26, "none", x.act(-1, 0, 0), -1);
        x.many(3, 2, 0);
        due(26, "of none all are idle", x.act(3, 2, 0), 5);
        due(26, "none has no parts", x.act(3, 1, 0), 0);
        due(26, "none has no rounds", x.act(3, 4, 1), 0);
    }

    private static void sameTold() {
        MarkTables x = Dues.threePlaces();
        x.coset(0, 1);
        x.places(1, 1, 0);
        x.coset(2, 3);
        x.coset(3, 2);
        x.both(3, 2, 3, 0);
        due(27, "like", x.same(0, 1), -1);
        due(27, "as many places, but", x.same(0, 3), 2);
        due(27, "places", x.same(0, 2), 0);
        due(27, "status", x.status(), 0);
        refused(27, "without a", x, x.same(7, 0), -2);
        due(27, "status", x.status(), -2);
        refused(27, "without b", x, x.same(0, 7), -2);
        refused(27, "none", x, x.same(-1, 8), -2);
    }

    private static void mapsTold() {
        MarkTables x = Dues.threePlaces();
        x.coset(0, 0);
        x.coset(1, 1);
        x.coset(2, 2);
        x.coset(3, 3);
        x.many(4, 3, 0);
        long[][] along = {{6, 3, 2, 1, 0}, {0, 1, 0, 1, 0}, {0, 0, 2, 1, 0}, {0, 0, 0, 1, 0}, {1, 1, 1, 1, 1}};
        long[] onToAll = {6, 1, 2, 1, 1};
        for (int a = 0; a < 5; a++) {
            for (int b = 0; b < 5; b++) {
                due(28, "from " + a + " to " + b, x.maps(a, b, 0), along[a][b]);
                due(28, "on to all", x.maps(a, b, 1), a == b ? onToAll[a] : 0);
            }
        }
        x.many(5, 2, 3);
        due(28, "three twos", x.maps(5, 5, 0), 216);
        due(28, "three twos on to all", x.maps(5, 5, 1), 6 * 8);
        due(28, "missing", x.maps(7, 0, 0), -1);
        due(28, "missing", x.maps(0, 7, 1), -1);
        due(28, "none", x.maps(-1, 8, 1), -1);
        due(28, "no way", x.maps(0, 0, 2), -1);
        due(28, "no way", x.maps(0, 0, -1), -1);
    }

    private static void mapsAtTheEdge() {
        MarkTables x = Dues.groupOf(2, Dues.order(1, 0));
        x.coset(0, 1);
        x.many(1, 0, 17);
        due(28, "17 factorial", x.maps(1, 1, 1), 355687428096000L);
        x.many(1, 0, 18);
        due(28, "18 factorial", x.maps(1, 1, 1), -5);
        x.many(2, 0, 10);
        x.many(3, 0, 15);
        due(28, "just 10 to the 15", x.maps(3, 2, 0), MOST);
        x.many(3, 0, 16);
        due(28, "above", x.maps(3, 2, 0), -5);
        x.many(3, 0, 1000000);
        due(28, "a million to one", x.maps(3, 0, 0), 1);
        due(28, "one to a million", x.maps(0, 3, 0), 1000000);
        x.coset(4, 0);
        x.both(5, 3, 4, 0);
        due(28, "above", x.maps(5, 5, 0), -5);
        due(28, "nowhere, however many else", x.maps(5, 4, 0), 0);
        x.many(6, 4, 15);
        x.both(6, 6, 0, 0);
        due(28, "on to all above", x.maps(6, 6, 1), -5);
        x.many(7, 4, 1);
        x.both(7, 7, 3, 0);
        due(28, "first nowhere is the last class", x.maps(7, 4, 0), 0);
        x.many(6, 4, 49);
        due(28, "2 to the 49", x.maps(6, 4, 0), 1L << 49);
        x.many(6, 4, 50);
        due(28, "2 to the 50", x.maps(6, 4, 0), -5);
    }

    private static void rowTold() {
        MarkTables x = Dues.threePlaces();
        due(29, "one", x.row(1000000000000L), 1);
        due(29, "two", x.row(-1000000000000L), 2);
        refused(29, "above", x, x.row(1000000000001L), -1);
        refused(29, "below", x, x.row(-1000000000001L), -1);
        refused(29, "far below", x, x.row(Long.MIN_VALUE), -1);
        refused(29, "far above", x, x.row(Long.MAX_VALUE), -1);
        due(29, "status", x.status(), -1);
        due(29, "three", x.row(0), 3);
        due(29, "four", x.row(0), 4);
        refused(29, "full", x, x.row(0), -5);
        due(29, "status", x.status(), -5);
        refused(29, "-1 is ahead", x, x.row(Long.MAX_VALUE), -1);
        due(29, "numbers", x.count(5), 4);
    }

    private static void checkTold() {
        MarkTables x = Dues.threePlaces();
        x.coset(0, 0);
        refused(30, "no numbers", x, x.check(0), -1);
        Dues.fillRow(x, 5, 1, 2);
        refused(30, "too few", x, x.check(0), -1);
        due(30, "status", x.status(), -1);
        due(30, "it stays", x.count(5), 3);
        x.row(0);
        due(30, "marks", x.check(0), 2);
        due(30, "status", x.status(), 0);
        due(30, "empty then", x.count(5), 0);
        long[] parts = {0, 1, 1, 0};
        long[] marks = {5, 1, 2, 0};
        for (int c = 0; c < 4; c++) {
            due(30, "parts", x.parts(0, c), parts[c]);
            due(30, "marks", x.mark(0, c), marks[c]);
        }
        Dues.fillRow(x, -1, -1, -1, -1);
        due(30, "one less", x.check(0), 1);
        due(30, "the act stays", x.act(0, 0, 0), 5);
        Dues.fillRow(x, 0, 0, 1, 0);
        due(30, "neither", x.check(0), 0);
        due(30, "empty then", x.count(5), 0);
        due(30, "the act stays", x.act(0, 0, 0), 5);
        Dues.fillRow(x, 0, 0, 0, 0);
        due(30, "none, kept nowhere", x.check(8), 2);
        Dues.fillRow(x, 0, 0, 0, 0);
        due(30, "none, kept nowhere", x.check(-1), 2);
        due(30, "acts", x.count(4), 1);
        Dues.fillRow(x, 0, 0, 0, 0);
        due(30, "none, kept", x.check(7), 2);
        due(30, "acts", x.count(4), 2);
        due(30, "none", x.act(7, 0, 0), 0);
    }

    private static void checkAtTheEdge() {
        MarkTables x = Dues.fivePlaces();
        for (int c = 0; c < 19; c++) {
            x.row(1000000000000L);
        }
        due(30, "the greatest marks", x.check(0), 2);
        due(30, "all idle", x.parts(0, 18), 1000000000000L);
        due(30, "all idle", x.act(0, 1, 0), 1000000000000L);
        for (int c = 0; c < 19; c++) {
            x.row(c == 18 ? 120000000000L : 0);
        }
        due(30, "less", x.check(0), 1);
        due(31, "which", x.misfit(), 17);
        for (int c = 0; c < 19; c++) {
            x.row(c == 0 ? 999999999960L : 0);
        }
        due(30, "all of one", x.check(1), 2);
        due(30, "parts", x.parts(1, 0), 8333333333L);
    }

    private static void misfitTold() {
        MarkTables x = Dues.threePlaces();
        due(31, "ahead of any", x.misfit(), -1);
        Dues.fillRow(x, 1, 0, 1, 0);
        x.check(0);
        due(31, "the greatest that doesn't fit", x.misfit(), 2);
        Dues.fillRow(x, 3, -1, -2, 0);
        due(31, "less of two", x.check(0), 0);
        due(31, "doesn't fit", x.misfit(), 0);
        Dues.fillRow(x, 1, -1, -2, 0);
        due(31, "less of two", x.check(0), 1);
        due(31, "the greatest of the two", x.misfit(), 2);
        due(31, "asked again", x.misfit(), 2);
        x.row(1);
        due(31, "a row in between", x.misfit(), 2);
        refused(31, "refused", x, x.check(0), -1);
        due(31, "a refused check() finds nothing out", x.misfit(), 2);
        Dues.fillRow(x, 1, 1, 1);
        due(31, "marks", x.check(0), 2);
        due(31, "none", x.misfit(), -1);
    }

    private static void chanceTold() {
        MarkTables x = Dues.fivePlaces();
        due(32, "of two", x.chance(2, 0), 19);
        due(32, "of two", x.chance(2, 1), 40);
        due(32, "of one", x.chance(1, 0), 0);
        due(32, "of one", x.chance(1, 1), 1);
        MarkTables even = Dues.evenFive();
        due(32, "of two even", even.chance(2, 0), 19);
        due(32, "of two even", even.chance(2, 1), 30);
        MarkTables two = Dues.groupOf(2, Dues.order(1, 0));
        for (int k = 0; k <= 6; k++) {
            due(32, "upper", two.chance(k, 0), (1 << k) - 1);
            due(32, "lower", two.chance(k, 1), 1 << k);
            due(32, "one place", new MarkTables().chance(k, 0), 1);
            due(32, "one place", new MarkTables().chance(k, 1), 1);
        }
        x.group(0);
        for (int k : new int[] {-1, 7, LOW, HIGH}) {
            due(32, "no such k", x.chance(k, 0), -1);
            due(32, "no such what", x.chance(0, k), -1);
        }
        due(32, "no such what", x.chance(0, 2), -1);
        due(32, "it leaves the status", x.status(), -1);
        x.coset(0, 0);
        x.chance(9, 9);
        due(32, "it leaves the status", x.status(), 0);
    }

    private static void rankTold() {
        due(33, "one place", new MarkTables().rank(), 0);
        due(33, "three in a round", Dues.groupOf(3, Dues.order(1, 2, 0)).rank(), 1);
        due(33, "five places", Dues.fivePlaces().rank(), 2);
        int[] a = Dues.order(1, 0);
        int[] b = Dues.order(0, 1, 3, 2);
        int[] c = Dues.order(0, 1, 2, 3, 5, 4);
        int[] d = Dues.order(0, 1, 2, 3, 4, 5, 7, 6);
        due(33, "two pairs", Dues.groupOf(8, a, b).rank(), 2);
        due(33, "three pairs", Dues.groupOf(8, a, b, c).rank(), 3);
        due(33, "four pairs", Dues.groupOf(8, a, b, c, d).rank(), 4);
    }

    private static void imagesTold() {
        MarkTables x = Dues.threePlaces();
        refused(35, "not kept", x, x.back(0), -2);
        due(35, "status", x.status(), -2);
        x.coset(0, 1);
        x.row(7);
        String first = Dues.view(x);
        due(34, "kept", x.image(2), 0);
        due(34, "status", x.status(), 0);
        x.coset(0, 2);
        x.coset(5, 3);
        x.row(8);
        Dues.lay(x, 0, 1, 2, 3, 0);
        x.group(4);
        x.coset(1, 10);
        String second = Dues.view(x);
        x.image(0);
        due(35, "back", x.back(2), 0);
        stays(35, "back", x, first);
        due(35, "the row goes on", x.row(9), 2);
        due(35, "back to the other", x.back(0), 0);
        stays(35, "back to the other", x, second);
        due(35, "sheets stay", x.group(4), 24);
        x.back(2);
        stays(35, "back again", x, first);
        for (int k : new int[] {-1, 3, LOW, HIGH}) {
            refused(34, "no image", x, x.image(k), -1);
            refused(35, "no image", x, x.back(k), -1);
        }
        refused(35, "not kept", x, x.back(1), -2);
        stays(35, "wrong inputs", x, first);
    }

    private static void imagesOfManyGroups() {
        MarkTables x = new MarkTables();
        String[] views = new String[3];
        for (int k = 0; k < 3; k++) {
            Dues.lay(x, 0, k == 0 ? new int[] {1, 0} : k == 1 ? new int[] {1, 2, 0} : new int[] {1, 2, 3, 0});
            x.group(4);
            x.heaps(k);
            views[k] = Dues.view(x);
            x.image(k);
        }
        for (int n = 5; n <= 8; n++) {
            Dues.lay(x, 0, 1, 2, 3, 4, 0);
            x.group(n);
            Dues.lay(x, 0, 1, 2, 3, 4, 5, 6, 7, 0);
            x.group(8);
            for (int k = 0; k < 3; k++) {
                x.back(k);
                stays(35, "image " + k, x, views[k]);
                Dues.lay(x, 0, 1, 2, 3, 4, 5, 0);
                x.group(6);
            }
        }
        x.image(1);
        String newer = Dues.view(x);
        x.back(0);
        x.group(7);
        x.back(1);
        stays(34, "an image kept anew", x, newer);
    }

    private static void statusTold() {
        MarkTables x = Dues.threePlaces();
        due(36, "group", x.status(), 0);
        x.sheet(9, 0, 0);
        due(36, "sheet", x.status(), -1);
        x.coset(0, 0);
        due(36, "coset", x.status(), 0);
        x.write(1, 9, 0);
        due(36, "write", x.status(), -3);
        x.places(0, 1, 0);
        due(36, "places", x.status(), 0);
        x.back(0);
        due(36, "back", x.status(), -2);
        x.heaps(1);
        due(36, "heaps", x.status(), 0);
        x.image(9);
        due(36, "image", x.status(), -1);
        x.both(0, 0, 0, 0);
        due(36, "both", x.status(), 0);
        x.both(0, 7, 0, 0);
        due(36, "both", x.status(), -2);
        x.colour(0, 0, 2);
        due(36, "colour", x.status(), 0);
        x.colour(0, 0, -2);
        x.many(0, 0, 2);
        due(36, "many", x.status(), 0);
        x.many(8, 0, 2);
        x.row(0);
        due(36, "row", x.status(), 0);
        x.check(0);
        due(36, "check", x.status(), -1);
        Dues.fillRow(x, 1, 0, 0);
        x.check(0);
        due(36, "a check() that gave 0", x.status(), 0);
        x.same(0, 7);
        due(36, "same", x.status(), -2);
        x.same(0, 0);
        due(36, "same that gave NONE", x.status(), 0);
    }

    private static void statusOfAsking() {
        MarkTables x = Dues.threePlaces();
        x.coset(0, 0);
        for (int round = 0; round < 2; round++) {
            int want = round == 0 ? 0 : -4;
            if (round == 1) {
                x.sheet(3, 0, -1);
            }
            x.count(9);
            x.turn(9, 9);
            x.product(9, 9);
            x.ofTurn(9, 9);
            x.heap(9, 9);
            x.has(9, 9);
            x.join(9, 9, 9);
            x.ofClass(9, 9);
            x.within(9, 9, 9);
            x.table(9, 9);
            x.sylow(9);
            x.down(99);
            x.simple();
            x.parts(9, 9);
            x.mark(9, 9);
            x.act(9, 9, 9);
            x.maps(9, 9, 9);
            x.maps(0, 0, 0);
            x.misfit();
            x.chance(9, 9);
            x.chance(1, 1);
            x.rank();
            due(36, "asking leaves it", x.status(), want);
        }
        due(36, "status leaves it", x.status(), -4);
        due(36, "NONE", MarkTables.NONE, -1);
    }
}
