/** The sentences of promises 24 to 27: what is asked of acts. */
final class AskedActsTold extends Told {
    /** Acts that are missing below, and numbers of none at all. */
    private static final int[] MISSING = {3, 7, -1, 8, 9, LOW, HIGH};
    private static final int[] NO_CLASSES = {-1, 4, 5, 300, LOW, HIGH};

    /** All of three places: act 0 is cosets 1 and 2, act 1 coset 2, act 2 is empty. */
    private static MarkTables withActs() {
        MarkTables x = Dues.threePlaces();
        x.coset(0, 1);
        x.coset(1, 2);
        x.many(2, 0, 0);
        x.both(0, 0, 1, 0);
        return x;
    }

    // ---- promise 24: parts

    @Holds(in = "Promise 24", words = "How many of COSET c ACT a has.")
    void parts() {
        MarkTables x = withActs();
        partsAre("a three and a two", x, 0, 0, 1, 1, 0);
        partsAre("a two", x, 1, 0, 0, 1, 0);
        partsAre("an empty one", x, 2, 0, 0, 0, 0);
        x.many(7, 0, 1000000);
        partsAre("a million", x, 7, 0, 1000000, 1000000, 0);
    }

    @Holds(in = "Promise 24", words = "NONE.")
    void noParts() {
        MarkTables x = withActs();
        for (int a : MISSING) {
            for (int c = 0; c < 4; c++) {
                due("parts(" + a + ", " + c + ")", x.parts(a, c), -1);
            }
        }
        for (int c : NO_CLASSES) {
            due("parts(0, " + c + ")", x.parts(0, c), -1);
            due("parts(2, " + c + ")", x.parts(2, c), -1);
        }
        due("neither", x.parts(LOW, HIGH), -1);
    }

    // ---- promise 25: mark

    @Holds(in = "Promise 25", words = "MARK of CLASS c on ACT a.")
    void marks() {
        MarkTables x = withActs();
        marksAre("a three and a two", x, 0, 5, 1, 2, 0);
        marksAre("a two", x, 1, 2, 0, 2, 0);
        marksAre("an empty one", x, 2, 0, 0, 0, 0);
        x.coset(7, 3);
        marksAre("one place", x, 7, 1, 1, 1, 1);
    }

    @Holds(in = "Promise 25", words = "NONE.")
    void noMarks() {
        MarkTables x = withActs();
        for (int a : MISSING) {
            for (int c = 0; c < 4; c++) {
                due("mark(" + a + ", " + c + ")", x.mark(a, c), -1);
            }
        }
        for (int c : NO_CLASSES) {
            due("mark(0, " + c + ")", x.mark(0, c), -1);
            due("mark(2, " + c + ")", x.mark(2, c), -1);
        }
        due("neither", x.mark(LOW, HIGH), -1);
    }

    // ---- promise 26: act

    @Holds(in = "Promise 26", words = "Of ACT a what 0 places")
    void placesOfActs() {
        MarkTables x = withActs();
        due("act(0, 0, 0)", x.act(0, 0, 0), 5);
        due("act(1, 0, 0)", x.act(1, 0, 0), 2);
        due("act(2, 0, 0)", x.act(2, 0, 0), 0);
        due("the most", withPlaces(7, 1000000, 1000000, 1000).act(7, 0, 0), MOST);
    }

    @Holds(in = "Promise 26", words = "1 PARTS")
    void allParts() {
        MarkTables x = withActs();
        due("act(0, 1, 0)", x.act(0, 1, 0), 2);
        due("act(1, 1, 0)", x.act(1, 1, 0), 1);
        due("act(2, 1, 0)", x.act(2, 1, 0), 0);
        due("the most", withPlaces(7, 1000000, 1000000, 1000).act(7, 1, 0), MOST);
    }

    @Holds(in = "Promise 26", words = "2 the greatest HEAP that leaves all of it")
    void greatestIdleHeap() {
        MarkTables x = withActs();
        due("a three and a two", x.act(0, 2, 0), 0);
        due("a two", x.act(1, 2, 0), 4);
        due("an empty one is left by all", x.act(2, 2, 0), 5);
        x.coset(7, 3);
        due("one place is left by all", x.act(7, 2, 0), 5);
        MarkTables four = Dues.fourPlaces();
        for (int c = 0; c < 11; c++) {
            four.coset(0, c);
            due("coset " + c + " of four places", four.act(0, 2, 0), four.heap(four.ofClass(c, 2), 4));
        }
    }

    @Holds(in = "Promise 26", words = "3 how many places TURN t leaves")
    void leftByTurns() {
        MarkTables x = withActs();
        long[] left = {5, 1, 1, 2, 2, 1};
        for (int t = 0; t < 6; t++) {
            due("act(0, 3, " + t + ")", x.act(0, 3, t), left[t]);
            due("act(2, 3, " + t + ")", x.act(2, 3, t), 0);
        }
        MarkTables five = Dues.fivePlaces();
        five.places(0, 1, 0);
        for (int t = 0; t < 120; t++) {
            int stay = 0;
            for (int p = 0; p < 5; p++) {
                stay += five.turn(t, p) == p ? 1 : 0;
            }
            due("of five places turn " + t, five.act(0, 3, t), stay);
        }
    }

    @Holds(in = "Promise 26", words = "4 in how many rounds TURN t leads them")
    void roundsOfTurns() {
        MarkTables x = withActs();
        long[] rounds = {5, 3, 3, 3, 3, 3};
        for (int t = 0; t < 6; t++) {
            due("act(0, 4, " + t + ")", x.act(0, 4, t), rounds[t]);
            due("act(2, 4, " + t + ")", x.act(2, 4, t), 0);
        }
        MarkTables six = Dues.groupOf(5, Dues.order(1, 2, 0, 4, 3));
        six.places(0, 1, 0);
        for (int t = 0; t < 6; t++) {
            int seen = 0;
            int want = 0;
            for (int p = 0; p < 5; p++) {
                want += (seen >> p & 1) == 0 ? 1 : 0;
                for (int q = p; (seen >> q & 1) == 0; q = six.turn(t, q)) {
                    seen |= 1 << q;
                }
            }
            due("a three and a two, turn " + t, six.act(0, 4, t), want);
        }
    }

    @Holds(in = "Promise 26", words = "5 how many sets of places are led to one another by HEAP t")
    void setsOfHeaps() {
        MarkTables x = withActs();
        long[] sets = {5, 3, 3, 3, 3, 2};
        for (int h = 0; h < 6; h++) {
            due("act(0, 5, " + h + ")", x.act(0, 5, h), sets[h]);
            due("act(2, 5, " + h + ")", x.act(2, 5, h), 0);
        }
        MarkTables most = Groups.mostHeaps();
        most.places(0, 1, 0);
        for (int h = 0; h < 250; h++) {
            int found = 0;
            for (int p = 0; p < 8; p++) {
                int least = p;
                for (int t = 0; t < 96; t++) {
                    least = most.has(h, t) == 1 ? Math.min(least, most.turn(t, p)) : least;
                }
                found += least == p ? 1 : 0;
            }
            due("of the most heaps " + h, most.act(0, 5, h), found);
        }
        MarkTables great = withPlaces(0, 1000000, 1000000, 1000);
        due("the most places", great.act(0, 5, 0), MOST);
    }

    @Holds(in = "Promise 26", words = "(t counts for 3 to 5 alone).")
    void turnsThatDoNotCount() {
        MarkTables x = withActs();
        for (int t : new int[] {0, 1, 5, 6, -1, LOW, HIGH}) {
            due("act(0, 0, " + t + ")", x.act(0, 0, t), 5);
            due("act(0, 1, " + t + ")", x.act(0, 1, t), 2);
            due("act(1, 2, " + t + ")", x.act(1, 2, t), 4);
        }
        MarkTables two = Dues.groupOf(4, Dues.order(1, 0), Dues.order(0, 1, 3, 2));
        two.coset(0, 0);
        due("four turns, turn 3", two.act(0, 3, 3), 0);
        due("no turn 4", two.act(0, 3, 4), -1);
        due("no turn 4", two.act(0, 4, 4), -1);
        due("but heap 4", two.act(0, 5, 4), 1);
        due("no heap 5", two.act(0, 5, 5), -1);
    }

    @Holds(in = "Promise 26", words = "NONE.")
    void noAct() {
        MarkTables x = withActs();
        for (int what = 0; what < 6; what++) {
            for (int a : MISSING) {
                due("act(" + a + ", " + what + ", 0)", x.act(a, what, 0), -1);
            }
        }
        for (int what : new int[] {-1, 6, 7, LOW, HIGH}) {
            due("act(0, " + what + ", 0)", x.act(0, what, 0), -1);
        }
        for (int what = 3; what < 6; what++) {
            for (int t : new int[] {-1, 6, 120, 300, LOW, HIGH}) {
                due("act(0, " + what + ", " + t + ")", x.act(0, what, t), -1);
                due("act(2, " + what + ", " + t + ")", x.act(2, what, t), -1);
            }
        }
    }

    // ---- promise 27: same

    @Holds(in = "Promise 27", words = "NONE if ACTS a and b have like MARKS")
    void likeMarks() {
        MarkTables x = withActs();
        taken("same(0, 0)", x, x.same(0, 0), -1);
        x.coset(4, 1);
        x.places(5, 1, 0);
        taken("coset 1 and the places", x, x.same(4, 5), -1);
        taken("the other way round", x, x.same(5, 4), -1);
        x.many(6, 1, 0);
        taken("two empty ones", x, x.same(2, 6), -1);
    }

    @Holds(in = "Promise 27", words = ", else the first CLASS that parts them")
    void partedByAClass() {
        MarkTables x = Dues.threePlaces();
        x.coset(0, 1);
        x.coset(1, 3);
        x.coset(2, 2);
        x.both(3, 1, 2, 0);
        x.many(4, 1, 3);
        x.coset(5, 0);
        x.both(6, 2, 0, 0);
        x.both(6, 6, 1, 0);
        taken("three places and one", x, x.same(0, 1), 0);
        taken("(3, 1, 0, 0) and (3, 1, 3, 1)", x, x.same(0, 3), 2);
        taken("the other way round", x, x.same(3, 0), 2);
        taken("(3, 1, 0, 0) and (3, 3, 3, 3)", x, x.same(0, 4), 1);
        taken("(6, 0, 0, 0) and (6, 2, 3, 1)", x, x.same(5, 6), 1);
        MarkTables pairs = Dues.groupOf(4, Dues.order(1, 0), Dues.order(0, 1, 3, 2));
        Dues.fillRow(pairs, 4, 0, 0, 0, 0);
        pairs.check(0);
        Dues.fillRow(pairs, 4, 0, 0, 4, 0);
        pairs.check(1);
        taken("the last class but one", pairs, pairs.same(0, 1), 3);
        Dues.fillRow(pairs, 6, 2, 2, 2, 0);
        due("three twos", pairs.check(2), 2);
        Dues.fillRow(pairs, 6, 2, 2, 2, 2);
        due("a four and two ones", pairs.check(3), 2);
        taken("the last class", pairs, pairs.same(2, 3), 4);
    }

    @Holds(in = "Promise 27", words = "-2 without either.")
    void sameOfMissingActs() {
        MarkTables x = withActs();
        String before = Dues.view(x);
        for (int a : MISSING) {
            refused("same(" + a + ", 0)", x, x.same(a, 0), -2);
            refused("same(0, " + a + ")", x, x.same(0, a), -2);
            refused("same(" + a + ", " + a + ")", x, x.same(a, a), -2);
        }
        stays("these", x, before);
    }
}
