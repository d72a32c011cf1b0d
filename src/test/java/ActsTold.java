/** The sentences of promises 18 to 20: acts of cosets, places and heaps. */
final class ActsTold extends Told {
    private static final int[] NO_ACTS = {-1, 8, 9, LOW, HIGH};

    // ---- promise 18: coset

    @Holds(in = "Promise 18", words = "ACT a becomes COSET c: its places.")
    void becomesACoset() {
        MarkTables x = Dues.threePlaces();
        long[] places = {6, 3, 2, 1};
        for (int c = 0; c < 4; c++) {
            taken("coset(7, " + c + ")", x, x.coset(7, c), places[c]);
            due("act(7, 0, 0)", x.act(7, 0, 0), places[c]);
            for (int d = 0; d < 4; d++) {
                due("parts(7, " + d + ")", x.parts(7, d), c == d ? 1 : 0);
                due("mark(7, " + d + ")", x.mark(7, d), x.table(c, d));
            }
        }
        due("of 120 turns", Dues.fivePlaces().coset(0, 0), 120);
        due("of one turn", new MarkTables().coset(0, 0), 1);
    }

    @Holds(in = "Promise 18", words = "-1 a;")
    void cosetForNoAct() {
        MarkTables x = Dues.threePlaces();
        String before = Dues.view(x);
        for (int a : NO_ACTS) {
            refused("coset(" + a + ", 0)", x, x.coset(a, 0), -1);
            refused("ahead of -2", x, x.coset(a, 4), -1);
        }
        stays("these", x, before);
        taken("coset(0, 0)", x, x.coset(0, 0), 6);
        taken("coset(7, 0)", x, x.coset(7, 0), 6);
    }

    @Holds(in = "Promise 18", words = "-2.")
    void cosetOfNoClass() {
        MarkTables x = Dues.threePlaces();
        x.coset(0, 1);
        String before = Dues.view(x);
        for (int c : new int[] {-1, 4, 5, 300, LOW, HIGH}) {
            refused("coset(0, " + c + ")", x, x.coset(0, c), -2);
            refused("coset(1, " + c + ")", x, x.coset(1, c), -2);
        }
        stays("these", x, before);
        taken("the last class", x, x.coset(0, 3), 1);
    }

    // ---- promise 19: places

    @Holds(in = "Promise 19", words = "ACT a becomes the sets of k PLACES (way 0)")
    void setsOfPlaces() {
        MarkTables x = Dues.threePlaces();
        long[] sets = {1, 3, 3, 1};
        int[] part = {3, 1, 1, 3};
        for (int k = 0; k <= 3; k++) {
            taken("places(0, " + k + ", 0)", x, x.places(0, k, 0), sets[k]);
            due("one part", x.act(0, 1, 0), 1);
            due("it is coset " + part[k], x.parts(0, part[k]), 1);
        }
        MarkTables eight = Dues.groupOf(8, Dues.order(1, 0));
        long[] ofEight = {1, 8, 28, 56, 70, 56, 28, 8, 1};
        long[] left = {1, 6, 16, 26, 30, 26, 16, 6, 1};
        for (int k = 0; k <= 8; k++) {
            taken("of eight " + k, eight, eight.places(0, k, 0), ofEight[k]);
            due("left by the swap", eight.mark(0, 1), left[k]);
            due("parts", eight.act(0, 1, 0), (ofEight[k] + left[k]) / 2);
        }
    }

    @Holds(in = "Promise 19", words = ", or the rows of k PLACES, no two alike (1)")
    void rowsOfPlaces() {
        MarkTables x = Dues.threePlaces();
        long[] rows = {1, 3, 6, 6};
        int[] part = {3, 1, 0, 0};
        for (int k = 0; k <= 3; k++) {
            taken("places(0, " + k + ", 1)", x, x.places(0, k, 1), rows[k]);
            due("one part", x.act(0, 1, 0), 1);
            due("it is coset " + part[k], x.parts(0, part[k]), 1);
        }
        MarkTables eight = Dues.groupOf(8, Dues.order(1, 0));
        long[] ofEight = {1, 8, 56, 336, 1680, 6720, 20160, 40320, 40320};
        long[] left = {1, 6, 30, 120, 360, 720, 720, 0, 0};
        for (int k = 0; k <= 8; k++) {
            taken("of eight " + k, eight, eight.places(0, k, 1), ofEight[k]);
            due("left by the swap", eight.mark(0, 1), left[k]);
        }
    }

    @Holds(in = "Promise 19", words = ", as the TURNS lead them: its places.")
    void ledPlaces() {
        MarkTables x = Dues.fourPlaces();
        x.places(0, 1, 0);
        x.places(1, 2, 0);
        x.places(2, 2, 1);
        for (int t = 0; t < 24; t++) {
            int left = 0;
            int sets = 0;
            for (int p = 0; p < 4; p++) {
                left += x.turn(t, p) == p ? 1 : 0;
                for (int q = 0; q < p; q++) {
                    sets += ((1 << x.turn(t, p)) | (1 << x.turn(t, q))) == ((1 << p) | (1 << q)) ? 1 : 0;
                }
            }
            due("places that turn " + t + " leaves", x.act(0, 3, t), left);
            due("sets of two", x.act(1, 3, t), sets);
            due("rows of two", x.act(2, 3, t), left * (left - 1));
        }
    }

    @Holds(in = "Promise 19", words = "-1 a")
    void placesForNoAct() {
        MarkTables x = Dues.threePlaces();
        String before = Dues.view(x);
        for (int a : NO_ACTS) {
            refused("places(" + a + ", 1, 0)", x, x.places(a, 1, 0), -1);
            refused("places(" + a + ", 1, 1)", x, x.places(a, 1, 1), -1);
        }
        stays("these", x, before);
        taken("places(7, 1, 0)", x, x.places(7, 1, 0), 3);
    }

    @Holds(in = "Promise 19", words = "k not 0 .. n")
    void placesOfNoNumber() {
        MarkTables x = Dues.threePlaces();
        x.coset(0, 2);
        String before = Dues.view(x);
        for (int way = 0; way < 2; way++) {
            for (int k : new int[] {-1, 4, 8, 9, LOW, HIGH}) {
                refused("places(0, " + k + ", " + way + ")", x, x.places(0, k, way), -1);
            }
        }
        stays("these", x, before);
        MarkTables eight = new MarkTables();
        eight.group(8);
        taken("8 of eight", eight, eight.places(0, 8, 0), 1);
        refused("9 of eight", eight, eight.places(0, 9, 0), -1);
        taken("0 of eight", eight, eight.places(0, 0, 1), 1);
    }

    @Holds(in = "Promise 19", words = ", way.")
    void placesOfNoWay() {
        MarkTables x = Dues.threePlaces();
        x.coset(0, 2);
        String before = Dues.view(x);
        for (int way : new int[] {-1, 2, LOW, HIGH}) {
            refused("places(0, 1, " + way + ")", x, x.places(0, 1, way), -1);
        }
        stays("these", x, before);
    }

    // ---- promise 20: heaps

    @Holds(in = "Promise 20", words = "ACT a becomes the HEAPS, led as told: its places.")
    void becomesTheHeaps() {
        MarkTables x = Dues.threePlaces();
        taken("heaps(7)", x, x.heaps(7), 6);
        partsAre("swaps in one part, the others alone", x, 7, 0, 1, 0, 3);
        marksAre("heaps that each class leads to themselves", x, 7, 6, 4, 3, 3);
        for (int c = 0; c < 4; c++) {
            x.coset(0, c);
            taken("behind coset " + c, x, x.heaps(1), 6);
            partsAre("behind coset " + c, x, 1, 0, 1, 0, 3);
        }
        MarkTables four = Dues.fourPlaces();
        due("of four places", four.heaps(0), 30);
        for (int t = 0; t < 24; t++) {
            int left = 0;
            for (int h = 0; h < 30; h++) {
                left += four.has(four.heap(h, 3), t);
            }
            due("heaps that turn " + t + " leads to themselves", four.act(0, 3, t), left);
        }
        MarkTables most = Groups.mostHeaps();
        due("the most heaps", most.heaps(0), 250);
        due("a part for each class", most.act(0, 1, 0), 56);
        due("of one turn", new MarkTables().heaps(0), 1);
    }

    @Holds(in = "Promise 20", words = "-1 a.")
    void heapsForNoAct() {
        MarkTables x = Dues.threePlaces();
        String before = Dues.view(x);
        for (int a : NO_ACTS) {
            refused("heaps(" + a + ")", x, x.heaps(a), -1);
        }
        stays("these", x, before);
        taken("heaps(0)", x, x.heaps(0), 6);
    }
}
