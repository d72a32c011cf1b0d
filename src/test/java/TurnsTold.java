/** The sentences of promises 6 to 8: turns. */
final class TurnsTold extends Told {
    private static final int[] NO_TURNS = {-1, 6, 7, 64, 120, LOW, HIGH};

    // ---- promise 6: turn

    @Holds(in = "Promise 6", words = "Where TURN t leads PLACE p")
    void whereTurnsLead() {
        MarkTables x = Dues.threePlaces();
        int[][] turns = {{0, 1, 2}, {0, 2, 1}, {1, 0, 2}, {1, 2, 0}, {2, 0, 1}, {2, 1, 0}};
        for (int t = 0; t < 6; t++) {
            for (int p = 0; p < 3; p++) {
                due("turn(" + t + ", " + p + ")", x.turn(t, p), turns[t][p]);
            }
        }
        MarkTables five = Dues.fivePlaces();
        for (int p = 0; p < 5; p++) {
            due("turn(119, " + p + ")", five.turn(119, p), 4 - p);
        }
        MarkTables eight = Dues.groupOf(8, Dues.order(1, 2, 3, 4, 5, 6, 7, 0));
        for (int t = 0; t < 8; t++) {
            for (int p = 0; p < 8; p++) {
                due("of eight turn(" + t + ", " + p + ")", eight.turn(t, p), (p + t) % 8);
            }
        }
    }

    @Holds(in = "Promise 6", words = "; NONE.")
    void noTurnOrPlace() {
        MarkTables x = Dues.threePlaces();
        for (int t : NO_TURNS) {
            due("turn(" + t + ", 0)", x.turn(t, 0), -1);
        }
        for (int p : new int[] {-1, 3, 7, 8, LOW, HIGH}) {
            due("turn(0, " + p + ")", x.turn(0, p), -1);
            due("turn(5, " + p + ")", x.turn(5, p), -1);
        }
        due("neither", x.turn(LOW, HIGH), -1);
        due("the last", x.turn(5, 2), 0);
        due("of 120 turns", Dues.fivePlaces().turn(120, 0), -1);
    }

    // ---- promise 7: product

    @Holds(in = "Promise 7", words = "s times t")
    void products() {
        MarkTables x = Dues.threePlaces();
        int[][] products = {{0, 1, 2, 3, 4, 5}, {1, 0, 3, 2, 5, 4}, {2, 4, 0, 5, 1, 3},
            {3, 5, 1, 4, 0, 2}, {4, 2, 5, 0, 3, 1}, {5, 3, 4, 1, 2, 0}};
        for (int s = 0; s < 6; s++) {
            for (int t = 0; t < 6; t++) {
                due("product(" + s + ", " + t + ")", x.product(s, t), products[s][t]);
            }
        }
        MarkTables five = Dues.fivePlaces();
        for (int t = 0; t < 120; t++) {
            due("product(0, " + t + ")", five.product(0, t), t);
            due("product(" + t + ", 0)", five.product(t, 0), t);
        }
        due("product(119, 119)", five.product(119, 119), 0);
    }

    @Holds(in = "Promise 7", words = "; NONE.")
    void noProduct() {
        MarkTables x = Dues.threePlaces();
        for (int t : NO_TURNS) {
            due("product(" + t + ", 0)", x.product(t, 0), -1);
            due("product(0, " + t + ")", x.product(0, t), -1);
            due("product(" + t + ", " + t + ")", x.product(t, t), -1);
        }
        due("product(5, 5)", x.product(5, 5), 0);
        due("of 120 turns", Dues.fivePlaces().product(119, 120), -1);
        due("of 120 turns", Dues.fivePlaces().product(120, 119), -1);
    }

    // ---- promise 8: ofTurn

    @Holds(in = "Promise 8", words = "Of TURN t what 0 its inverse")
    void inverses() {
        MarkTables x = Dues.threePlaces();
        int[] inverse = {0, 1, 2, 4, 3, 5};
        for (int t = 0; t < 6; t++) {
            due("ofTurn(" + t + ", 0)", x.ofTurn(t, 0), inverse[t]);
        }
        MarkTables five = Dues.fivePlaces();
        for (int t = 0; t < 120; t++) {
            due("turn " + t + " behind its inverse", five.product(five.ofTurn(t, 0), t), 0);
        }
    }

    @Holds(in = "Promise 8", words = "1 its order (how often it is done until nothing is moved)")
    void orders() {
        MarkTables x = Dues.threePlaces();
        int[] order = {1, 2, 2, 3, 3, 2};
        for (int t = 0; t < 6; t++) {
            due("ofTurn(" + t + ", 1)", x.ofTurn(t, 1), order[t]);
        }
        MarkTables eight = Dues.groupOf(8, Dues.order(1, 2, 3, 4, 5, 6, 7, 0));
        int[] ofEight = {1, 8, 4, 8, 2, 8, 4, 8};
        for (int t = 0; t < 8; t++) {
            due("of eight in a round " + t, eight.ofTurn(t, 1), ofEight[t]);
        }
        int greatest = 0;
        MarkTables most = Dues.groupOf(8, Dues.order(1, 2, 0), Dues.order(0, 1, 2, 4, 5, 6, 7, 3));
        for (int t = 0; t < 15; t++) {
            greatest = Math.max(greatest, most.ofTurn(t, 1));
        }
        due("the greatest that eight places have", greatest, 15);
    }

    @Holds(in = "Promise 8", words = "2 the HEAP that it makes")
    void heapsMade() {
        MarkTables x = Dues.threePlaces();
        int[] makes = {0, 1, 2, 4, 4, 3};
        for (int t = 0; t < 6; t++) {
            due("ofTurn(" + t + ", 2)", x.ofTurn(t, 2), makes[t]);
        }
        MarkTables five = Dues.fivePlaces();
        for (int t = 0; t < 120; t++) {
            int h = five.ofTurn(t, 2);
            due("its size is the order of turn " + t, five.heap(h, 0), five.ofTurn(t, 1));
            due("it has turn " + t, five.has(h, t), 1);
        }
        due("a round makes the whole", Dues.groupOf(8, Dues.order(1, 2, 3, 4, 5, 6, 7, 0)).ofTurn(7, 2), 3);
    }

    @Holds(in = "Promise 8", words = "3 how many TURNS are led to it by TURNS (as HEAPS are).")
    void turnsLedToIt() {
        MarkTables x = Dues.threePlaces();
        int[] kin = {1, 3, 3, 2, 2, 3};
        for (int t = 0; t < 6; t++) {
            due("ofTurn(" + t + ", 3)", x.ofTurn(t, 3), kin[t]);
        }
        MarkTables four = Dues.fourPlaces();
        for (int t = 0; t < 24; t++) {
            long led = 0;
            for (int g = 0; g < 24; g++) {
                led |= 1L << four.product(four.product(four.ofTurn(g, 0), t), g);
            }
            due("of four places " + t, four.ofTurn(t, 3), Long.bitCount(led));
        }
        due("where all commutes", Dues.groupOf(4, Dues.order(1, 2, 3, 0)).ofTurn(3, 3), 1);
    }

    @Holds(in = "Promise 8", words = "NONE.")
    void noTurnOrWhat() {
        MarkTables x = Dues.threePlaces();
        for (int what = 0; what < 4; what++) {
            for (int t : NO_TURNS) {
                due("ofTurn(" + t + ", " + what + ")", x.ofTurn(t, what), -1);
            }
        }
        for (int what : new int[] {-1, 4, 5, LOW, HIGH}) {
            due("ofTurn(0, " + what + ")", x.ofTurn(0, what), -1);
            due("ofTurn(6, " + what + ")", x.ofTurn(6, what), -1);
        }
    }
}
