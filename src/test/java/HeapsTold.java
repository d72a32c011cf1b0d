/** The sentences of promises 9 to 11: heaps. */
final class HeapsTold extends Told {
    private static final int[] NO_HEAPS = {-1, 6, 7, 299, 300, LOW, HIGH};

    /** What is asked of each of the six heaps of all turns of three places. */
    private void ofSix(int what, int... want) {
        MarkTables x = Dues.threePlaces();
        for (int h = 0; h < 6; h++) {
            due("heap(" + h + ", " + what + ")", x.heap(h, what), want[h]);
        }
    }

    // ---- promise 9: heap

    @Holds(in = "Promise 9", words = "Of HEAP h what 0 its size")
    void sizes() {
        ofSix(0, 1, 2, 2, 2, 3, 6);
        MarkTables x = Dues.fivePlaces();
        due("the least", x.heap(0, 0), 1);
        due("the whole", x.heap(155, 0), 120);
        due("the even ones", x.heap(154, 0), 60);
        for (int h = 0; h < 156; h++) {
            int turns = 0;
            for (int t = 0; t < 120; t++) {
                turns += x.has(h, t);
            }
            due("turns of heap " + h, x.heap(h, 0), turns);
        }
    }

    @Holds(in = "Promise 9", words = "1 CLASS")
    void classes() {
        ofSix(1, 0, 1, 1, 1, 2, 3);
        due("of the last of the most heaps", Groups.mostHeaps().heap(249, 1), 55);
        due("of the whole of five places", Dues.fivePlaces().heap(155, 1), 18);
    }

    @Holds(in = "Promise 9", words = "2 1 if it is NORMAL, else 0")
    void normal() {
        ofSix(2, 1, 0, 0, 0, 1, 1);
        MarkTables five = Dues.fivePlaces();
        for (int h = 0; h < 156; h++) {
            due("of five places heap(" + h + ", 2)", five.heap(h, 2), h == 0 || h >= 154 ? 1 : 0);
        }
    }

    @Holds(in = "Promise 9", words = "3 the HEAP of all TURNS that lead it to itself")
    void leadersToItself() {
        ofSix(3, 5, 1, 2, 3, 5, 5);
        MarkTables x = Dues.fourPlaces();
        for (int h = 0; h < 30; h++) {
            long heap = Groups.membersOf(x, h);
            long leaders = 0;
            for (int g = 0; g < 24; g++) {
                long led = 0;
                for (int t = 0; t < 24; t++) {
                    if (((heap >> t) & 1) != 0) {
                        led |= 1L << x.product(x.product(x.ofTurn(g, 0), t), g);
                    }
                }
                leaders |= led == heap ? 1L << g : 0;
            }
            due("of four places heap(" + h + ", 3)", Groups.membersOf(x, x.heap(h, 3)), leaders);
        }
    }

    @Holds(in = "Promise 9", words = "4 the greatest NORMAL HEAP within it")
    void greatestNormalWithin() {
        ofSix(4, 0, 0, 0, 0, 4, 5);
        MarkTables x = Dues.fourPlaces();
        int pairs = x.heap(28, 5);
        due("the two pairs", x.heap(pairs, 0), 4);
        for (int h = 25; h < 28; h++) {
            due("a square's size", x.heap(h, 0), 8);
            due("within a square", x.heap(h, 4), pairs);
        }
        due("within the even ones", x.heap(28, 4), 28);
        MarkTables even = Dues.evenFive();
        for (int h = 0; h < 59; h++) {
            due("of five even places heap(" + h + ", 4)", even.heap(h, 4), h == 58 ? 58 : 0);
        }
    }

    @Holds(in = "Promise 9", words = "5 the least HEAP that has all s times t times inverse of s times inverse of t of it")
    void leastOverTwists() {
        ofSix(5, 0, 0, 0, 0, 0, 4);
        MarkTables x = Dues.fourPlaces();
        int[] sizes = {24, 12, 4, 1, 1};
        int left = 29;
        for (int size : sizes) {
            due("size", x.heap(left, 0), size);
            left = x.heap(left, 5);
        }
        due("of a square", x.heap(x.heap(25, 5), 0), 2);
        due("of five even places", Dues.evenFive().heap(58, 5), 58);
        due("of the quaternions", Groups.quaternions().heap(5, 5), 1);
    }

    @Holds(in = "Promise 9", words = "the least HEAP that has all")
    void leastOverTwistsOfManyTurns() {
        for (MarkTables x : new MarkTables[] {Dues.fivePlaces(), Groups.mostTurnsOfEight(), Groups.mostHeaps()}) {
            for (int h = 0; h < x.count(2); h++) {
                boolean[] twists = twistsOf(x, h);
                int least = 0;
                while (!Groups.hasAll(x, least, twists)) {
                    least++;
                }
                due("heap(" + h + ", 5)", x.heap(h, 5), least);
            }
        }
    }

    private static boolean[] twistsOf(MarkTables x, int h) {
        boolean[] twists = new boolean[x.count(1)];
        for (int s = 0; s < twists.length; s++) {
            for (int t = 0; t < twists.length && x.has(h, s) == 1; t++) {
                if (x.has(h, t) == 1) {
                    int back = x.product(x.ofTurn(s, 0), x.ofTurn(t, 0));
                    twists[x.product(x.product(s, t), back)] = true;
                }
            }
        }
        return twists;
    }

    @Holds(in = "Promise 9", words = "6 SIGN")
    void signs() {
        ofSix(6, 3, -1, -1, -1, -1, 1);
        due("of four places", Dues.fourPlaces().heap(0, 6), -12);
        due("of five even places", Dues.evenFive().heap(0, 6), -60);
        due("of a pair", Dues.groupOf(2, Dues.order(1, 0)).heap(0, 6), -1);
        due("of four in a round", Dues.groupOf(4, Dues.order(1, 2, 3, 0)).heap(0, 6), 0);
        due("of four pairs", Dues.groupOf(8, Groups.FOUR_PAIRS).heap(0, 6), 64);
    }

    @Holds(in = "Promise 9", words = "7 1 if s times t is always t times s there, else 0")
    void commute() {
        ofSix(7, 1, 1, 1, 1, 1, 0);
        MarkTables x = Dues.fourPlaces();
        for (int h = 0; h < 30; h++) {
            int all = 1;
            for (int s = 0; s < 24; s++) {
                for (int t = 0; t < 24; t++) {
                    if (x.has(h, s) == 1 && x.has(h, t) == 1 && x.product(s, t) != x.product(t, s)) {
                        all = 0;
                    }
                }
            }
            due("of four places heap(" + h + ", 7)", x.heap(h, 7), all);
        }
        due("of the quaternions", Groups.quaternions().heap(5, 7), 0);
        due("of four in a round", Dues.groupOf(4, Dues.order(1, 2, 3, 0)).heap(2, 7), 1);
    }

    @Holds(in = "Promise 9", words = "8 how many HEAPS lie in it (itself, too)")
    void heapsWithin() {
        ofSix(8, 1, 2, 2, 2, 2, 6);
        MarkTables x = Dues.fourPlaces();
        due("in a square", x.heap(25, 8), 10);
        due("in the even ones", x.heap(28, 8), 10);
        due("in all", x.heap(29, 8), 30);
        due("in the least", x.heap(0, 8), 1);
    }

    @Holds(in = "Promise 9", words = "9 in how many it lies (itself, too).")
    void heapsOver() {
        ofSix(9, 6, 2, 2, 2, 2, 1);
        MarkTables x = Dues.fourPlaces();
        due("a square", x.heap(25, 9), 2);
        due("the two pairs: in itself, squares, even ones, all", x.heap(x.heap(28, 5), 9), 6);
        due("all", x.heap(29, 9), 1);
        due("the least", x.heap(0, 9), 30);
    }

    @Holds(in = "Promise 9", words = "-1000000 without it, or for another what.")
    void noHeapOrWhat() {
        MarkTables x = Dues.threePlaces();
        for (int what = 0; what < 10; what++) {
            for (int h : NO_HEAPS) {
                due("heap(" + h + ", " + what + ")", x.heap(h, what), NO_HEAP);
            }
        }
        for (int what : new int[] {-1, 10, 11, LOW, HIGH}) {
            due("heap(0, " + what + ")", x.heap(0, what), NO_HEAP);
            due("heap(5, " + what + ")", x.heap(5, what), NO_HEAP);
        }
        due("neither", x.heap(LOW, HIGH), NO_HEAP);
        due("of a new object", new MarkTables().heap(1, 0), NO_HEAP);
    }

    // ---- promise 10: has

    @Holds(in = "Promise 10", words = "Whether TURN t is in HEAP h: 1, 0")
    void members() {
        MarkTables x = Dues.threePlaces();
        String[] members = {"100000", "110000", "101000", "100001", "100110", "111111"};
        for (int h = 0; h < 6; h++) {
            for (int t = 0; t < 6; t++) {
                due("has(" + h + ", " + t + ")", x.has(h, t), members[h].charAt(t) - '0');
            }
        }
        MarkTables five = Dues.fivePlaces();
        for (int t = 0; t < 120; t++) {
            due("the whole has " + t, five.has(155, t), 1);
            due("the least has " + t, five.has(0, t), t == 0 ? 1 : 0);
        }
    }

    @Holds(in = "Promise 10", words = "; NONE.")
    void noMembers() {
        MarkTables x = Dues.threePlaces();
        for (int h : NO_HEAPS) {
            due("has(" + h + ", 0)", x.has(h, 0), -1);
        }
        for (int t : new int[] {-1, 6, 63, 64, 119, 120, LOW, HIGH}) {
            due("has(5, " + t + ")", x.has(5, t), -1);
        }
        due("neither", x.has(-1, -1), -1);
        due("turn 120 of 120", Dues.fivePlaces().has(155, 120), -1);
    }

    // ---- promise 11: join

    @Holds(in = "Promise 11", words = "The HEAP that has what is in both (way 0)")
    void inBoth() {
        MarkTables x = Dues.fourPlaces();
        for (int h = 0; h < 30; h++) {
            for (int k = 0; k < 30; k++) {
                long both = Groups.membersOf(x, h) & Groups.membersOf(x, k);
                due("join(" + h + ", " + k + ", 0)", Groups.membersOf(x, x.join(h, k, 0)), both);
            }
        }
        MarkTables three = Dues.threePlaces();
        due("two swaps", three.join(1, 2, 0), 0);
        due("a round and all", three.join(4, 5, 0), 4);
        due("one with itself", three.join(1, 1, 0), 1);
    }

    @Holds(in = "Promise 11", words = ", the least that has all of both (1)")
    void overBoth() {
        MarkTables three = Dues.threePlaces();
        due("two swaps", three.join(1, 2, 1), 5);
        due("a swap and a round", three.join(4, 1, 1), 5);
        due("with the least", three.join(0, 3, 1), 3);
        due("one with itself", three.join(4, 4, 1), 4);
        MarkTables x = Dues.fourPlaces();
        for (int h = 0; h < 30; h++) {
            for (int k = 0; k < 30; k++) {
                long all = Groups.membersOf(x, h) | Groups.membersOf(x, k);
                long least = -1;
                for (int l = 0; l < 30; l++) {
                    least = (all & ~Groups.membersOf(x, l)) == 0 ? least & Groups.membersOf(x, l) : least;
                }
                due("join(" + h + ", " + k + ", 1)", Groups.membersOf(x, x.join(h, k, 1)), least);
            }
        }
    }

    @Holds(in = "Promise 11", words = "the least that has all of both (1)")
    void overBothOf120Turns() {
        MarkTables x = Dues.fivePlaces();
        for (int h = 0; h < 156; h++) {
            for (int k = h % 11; k < 156; k += 11) {
                int least = 0;
                while (x.join(h, least, 0) != h || x.join(k, least, 0) != k) {
                    least++;
                }
                due("join(" + h + ", " + k + ", 1)", x.join(h, k, 1), least);
            }
        }
    }

    @Holds(in = "Promise 11", words = "; NONE.")
    void noJoin() {
        MarkTables x = Dues.threePlaces();
        for (int way = 0; way < 2; way++) {
            for (int h : NO_HEAPS) {
                due("join(" + h + ", 0, " + way + ")", x.join(h, 0, way), -1);
                due("join(0, " + h + ", " + way + ")", x.join(0, h, way), -1);
            }
        }
        for (int way : new int[] {-1, 2, LOW, HIGH}) {
            due("join(0, 0, " + way + ")", x.join(0, 0, way), -1);
        }
    }
}
