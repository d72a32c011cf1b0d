/** The sentences of promises 12 to 17: classes, the table, and what the whole group is like. */
final class ClassesTold extends Told {
    private static final int[] NO_CLASSES = {-1, 4, 5, 300, LOW, HIGH};

    // ---- promise 12: ofClass

    @Holds(in = "Promise 12", words = "Of CLASS c what 0 size of its HEAPS")
    void sizes() {
        MarkTables x = Dues.threePlaces();
        int[] size = {1, 2, 3, 6};
        for (int c = 0; c < 4; c++) {
            due("ofClass(" + c + ", 0)", x.ofClass(c, 0), size[c]);
        }
        MarkTables four = Dues.fourPlaces();
        int[] ofFour = {1, 2, 2, 3, 4, 4, 4, 6, 8, 12, 24};
        for (int c = 0; c < 11; c++) {
            due("of four places ofClass(" + c + ", 0)", four.ofClass(c, 0), ofFour[c]);
        }
    }

    @Holds(in = "Promise 12", words = "1 how many")
    void numbers() {
        MarkTables x = Dues.threePlaces();
        int[] number = {1, 3, 1, 1};
        for (int c = 0; c < 4; c++) {
            due("ofClass(" + c + ", 1)", x.ofClass(c, 1), number[c]);
        }
        MarkTables most = Groups.mostHeaps();
        int heaps = 0;
        for (int c = 0; c < most.count(3); c++) {
            heaps += most.ofClass(c, 1);
        }
        due("together all heaps", heaps, 250);
    }

    @Holds(in = "Promise 12", words = "2 the first.")
    void firsts() {
        MarkTables x = Dues.threePlaces();
        int[] first = {0, 1, 4, 5};
        for (int c = 0; c < 4; c++) {
            due("ofClass(" + c + ", 2)", x.ofClass(c, 2), first[c]);
        }
        due("of the last class", Dues.fivePlaces().ofClass(18, 2), 155);
    }

    @Holds(in = "Promise 12", words = "NONE.")
    void noClassOrWhat() {
        MarkTables x = Dues.threePlaces();
        for (int what = 0; what < 3; what++) {
            for (int c : NO_CLASSES) {
                due("ofClass(" + c + ", " + what + ")", x.ofClass(c, what), -1);
            }
        }
        for (int what : new int[] {-1, 3, LOW, HIGH}) {
            due("ofClass(0, " + what + ")", x.ofClass(0, what), -1);
            due("ofClass(4, " + what + ")", x.ofClass(4, what), -1);
        }
    }

    // ---- promise 13: within

    @Holds(in = "Promise 13", words = "How many HEAPS of CLASS d lie within one of CLASS c (way 0)")
    void below() {
        MarkTables x = Dues.threePlaces();
        int[][] below = {{1, 0, 0, 0}, {1, 1, 0, 0}, {1, 0, 1, 0}, {1, 3, 1, 1}};
        for (int c = 0; c < 4; c++) {
            for (int d = 0; d < 4; d++) {
                due("within(" + c + ", " + d + ", 0)", x.within(c, d, 0), below[c][d]);
            }
        }
        MarkTables four = Dues.fourPlaces();
        for (int c = 0; c < 11; c++) {
            int within = 0;
            for (int d = 0; d < 11; d++) {
                within += four.within(c, d, 0);
            }
            due("all within class " + c, within, four.heap(four.ofClass(c, 2), 8));
        }
    }

    @Holds(in = "Promise 13", words = ", how many of CLASS d one of CLASS c lies in (1)")
    void above() {
        MarkTables x = Dues.threePlaces();
        int[][] above = {{1, 3, 1, 1}, {0, 1, 0, 1}, {0, 0, 1, 1}, {0, 0, 0, 1}};
        for (int c = 0; c < 4; c++) {
            for (int d = 0; d < 4; d++) {
                due("within(" + c + ", " + d + ", 1)", x.within(c, d, 1), above[c][d]);
            }
        }
        MarkTables four = Dues.fourPlaces();
        for (int c = 0; c < 11; c++) {
            int over = 0;
            for (int d = 0; d < 11; d++) {
                over += four.within(c, d, 1);
            }
            due("all over class " + c, over, four.heap(four.ofClass(c, 2), 9));
        }
    }

    @Holds(in = "Promise 13", words = "; NONE.")
    void noWithin() {
        MarkTables x = Dues.threePlaces();
        for (int way = 0; way < 2; way++) {
            for (int c : NO_CLASSES) {
                due("within(" + c + ", 0, " + way + ")", x.within(c, 0, way), -1);
                due("within(0, " + c + ", " + way + ")", x.within(0, c, way), -1);
            }
        }
        for (int way : new int[] {-1, 2, LOW, HIGH}) {
            due("within(0, 0, " + way + ")", x.within(0, 0, way), -1);
        }
    }

    // ---- promise 14: table

    @Holds(in = "Promise 14", words = "MARK of CLASS d on COSET c")
    void table() {
        MarkTables x = Dues.threePlaces();
        int[][] table = {{6, 0, 0, 0}, {3, 1, 0, 0}, {2, 0, 2, 0}, {1, 1, 1, 1}};
        for (int c = 0; c < 4; c++) {
            for (int d = 0; d < 4; d++) {
                due("table(" + c + ", " + d + ")", x.table(c, d), table[c][d]);
            }
        }
        MarkTables five = Dues.fivePlaces();
        for (int c = 0; c < 19; c++) {
            due("of class 0 all places of coset " + c, five.table(c, 0), 120 / five.ofClass(c, 0));
            due("of class " + c + " on the last coset", five.table(18, c), 1);
            for (int d = c + 1; d < 19; d++) {
                due("of a greater class nothing", five.table(c, d), 0);
            }
        }
    }

    @Holds(in = "Promise 14", words = "; NONE.")
    void noTable() {
        MarkTables x = Dues.threePlaces();
        for (int c : NO_CLASSES) {
            due("table(" + c + ", 0)", x.table(c, 0), -1);
            due("table(3, " + c + ")", x.table(3, c), -1);
            due("table(" + c + ", " + c + ")", x.table(c, c), -1);
        }
    }

    // ---- promise 15: sylow

    @Holds(in = "Promise 15", words = "The CLASS of HEAPS whose size is the greatest power of a prime p"
        + " that divides how many TURNS there are")
    void greatestPowers() {
        MarkTables x = Dues.fivePlaces();
        int[] prime = {2, 3, 5};
        int[] size = {8, 3, 5};
        int[] number = {15, 10, 6};
        for (int i = 0; i < 3; i++) {
            int c = x.sylow(prime[i]);
            due("size for " + prime[i], x.ofClass(c, 0), size[i]);
            due("number for " + prime[i], x.ofClass(c, 1), number[i]);
        }
        due("all of three, for 2", Dues.threePlaces().sylow(2), 1);
        due("all of three, for 3", Dues.threePlaces().sylow(3), 2);
        due("two threes", Dues.groupOf(6, Dues.order(1, 2, 0), Dues.order(0, 1, 2, 4, 5, 3)).sylow(3), 5);
        MarkTables most = Groups.mostHeaps();
        due("96 turns, for 2", most.ofClass(most.sylow(2), 0), 32);
        due("96 turns, for 3", most.ofClass(most.sylow(3), 0), 3);
    }

    @Holds(in = "Promise 15", words = "(p 2, 3, 5, 7;")
    void primes() {
        due("for 2", Dues.groupOf(2, Dues.order(1, 0)).sylow(2), 1);
        due("for 3", Dues.groupOf(3, Dues.order(1, 2, 0)).sylow(3), 1);
        due("for 5", Dues.groupOf(5, Dues.order(1, 2, 3, 4, 0)).sylow(5), 1);
        due("for 7", Dues.groupOf(7, Dues.order(1, 2, 3, 4, 5, 6, 0)).sylow(7), 1);
        due("the whole", Dues.groupOf(8, Dues.order(1, 2, 3, 4, 5, 6, 7, 0)).sylow(2), 3);
    }

    @Holds(in = "Promise 15", words = "the whole of one if there is none: that of TURN 0)")
    void noPower() {
        MarkTables x = Dues.fivePlaces();
        due("120 turns, for 7", x.sylow(7), 0);
        for (int p : new int[] {2, 3, 5, 7}) {
            due("one turn, for " + p, new MarkTables().sylow(p), 0);
            due("two turns, for " + p, Dues.groupOf(2, Dues.order(1, 0)).sylow(p), p == 2 ? 1 : 0);
        }
    }

    @Holds(in = "Promise 15", words = "; NONE.")
    void noPrime() {
        MarkTables x = Dues.fivePlaces();
        for (int p : new int[] {0, 1, 4, 6, 8, 9, 10, 11, 13, 60, 120, -1, -2, -3, LOW, HIGH}) {
            due("sylow(" + p + ")", x.sylow(p), -1);
        }
    }

    // ---- promise 16: down

    @Holds(in = "Promise 16", words = "The GROUP taken down: the HEAP that the k-th step leaves"
        + " (0 the whole, then what 5 of heap() of the one ahead)")
    void stepsDown() {
        MarkTables x = Dues.fourPlaces();
        int[] sizes = {24, 12, 4, 1, 1, 1, 1, 1, 1, 1, 1};
        due("down(0)", x.down(0), 29);
        for (int k = 0; k <= 10; k++) {
            due("size of down(" + k + ")", x.heap(x.down(k), 0), sizes[k]);
            due("it is 5 of the one ahead", x.down(k), k == 0 ? 29 : x.heap(x.down(k - 1), 5));
        }
        MarkTables even = Dues.evenFive();
        MarkTables five = Dues.fivePlaces();
        for (int k = 0; k <= 10; k++) {
            due("the even ones stay", even.down(k), 58);
            due("all come to the even ones", five.down(k), k == 0 ? 155 : 154);
            due("one turn stays", new MarkTables().down(k), 0);
        }
    }

    @Holds(in = "Promise 16", words = "; NONE for k not 0 .. 10.")
    void noStep() {
        MarkTables x = Dues.fourPlaces();
        for (int k : new int[] {-1, 11, 12, LOW, HIGH}) {
            due("down(" + k + ")", x.down(k), -1);
        }
        due("down(10)", x.down(10), 0);
        due("down(0)", x.down(0), 29);
    }

    // ---- promise 17: simple

    @Holds(in = "Promise 17", words = "1 if the GROUP has just two NORMAL HEAPS")
    void simple() {
        due("five even places", Dues.evenFive().simple(), 1);
        due("two places", Dues.groupOf(2, Dues.order(1, 0)).simple(), 1);
        due("seven in a round", Dues.groupOf(7, Dues.order(1, 2, 3, 4, 5, 6, 0)).simple(), 1);
    }

    @Holds(in = "Promise 17", words = ", else 0.")
    void notSimple() {
        due("one turn has one", new MarkTables().simple(), 0);
        due("three places have three", Dues.threePlaces().simple(), 0);
        due("four places have four", Dues.fourPlaces().simple(), 0);
        due("five places have three", Dues.fivePlaces().simple(), 0);
        due("four in a round have three", Dues.groupOf(4, Dues.order(1, 2, 3, 0)).simple(), 0);
    }
}
