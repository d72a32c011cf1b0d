/** The sentences of promises 21 to 23: acts that are made of acts. */
final class MadeActsTold extends Told {
    private static final int[] NO_ACTS = {-1, 8, 9, LOW, HIGH};
    /** Numbers of acts that are missing below, and of none at all. */
    private static final int[] MISSING = {6, 7, -1, 8, LOW, HIGH};

    /** All of three places: act 0 is coset 1, act 1 coset 2, act 2 is empty. */
    private static MarkTables withActs() {
        MarkTables x = Dues.threePlaces();
        x.coset(0, 1);
        x.coset(1, 2);
        x.many(2, 0, 0);
        return x;
    }

    // ---- promise 21: both

    @Holds(in = "Promise 21", words = "ACT a becomes ACTS b and c side by side (way 0)")
    void sideBySide() {
        MarkTables x = withActs();
        taken("both(3, 0, 1, 0)", x, x.both(3, 0, 1, 0), 5);
        partsAre("a three and a two", x, 3, 0, 1, 1, 0);
        marksAre("a three and a two", x, 3, 5, 1, 2, 0);
        taken("beside an empty one", x, x.both(4, 2, 1, 0), 2);
        partsAre("beside an empty one", x, 4, 0, 0, 1, 0);
        taken("an empty one beside an empty one", x, x.both(4, 2, 2, 0), 0);
        taken("in its own place", x, x.both(0, 0, 0, 0), 6);
        partsAre("in its own place", x, 0, 0, 2, 0, 0);
        taken("in the place of one of them", x, x.both(1, 0, 1, 0), 8);
        marksAre("in the place of one of them", x, 1, 8, 2, 2, 0);
    }

    @Holds(in = "Promise 21", words = ", the pairs of their places (1): its places.")
    void pairs() {
        MarkTables x = withActs();
        taken("both(3, 0, 1, 1)", x, x.both(3, 0, 1, 1), 6);
        partsAre("a three with a two", x, 3, 1, 0, 0, 0);
        marksAre("a three with a two", x, 3, 6, 0, 0, 0);
        taken("with an empty one", x, x.both(4, 0, 2, 1), 0);
        partsAre("with an empty one", x, 4, 0, 0, 0, 0);
        taken("an empty one with it", x, x.both(4, 2, 0, 1), 0);
        taken("in its own place", x, x.both(0, 0, 0, 1), 9);
        partsAre("in its own place", x, 0, 1, 1, 0, 0);
        marksAre("in its own place", x, 0, 9, 1, 0, 0);
        taken("in the place of one of them", x, x.both(1, 1, 0, 1), 18);
        partsAre("in the place of one of them", x, 1, 3, 0, 0, 0);
    }

    @Holds(in = "Promise 21", words = "-1 a")
    void bothForNoAct() {
        MarkTables x = withActs();
        String before = Dues.view(x);
        for (int a : NO_ACTS) {
            refused("both(" + a + ", 0, 1, 0)", x, x.both(a, 0, 1, 0), -1);
            refused("ahead of -2", x, x.both(a, 7, 7, 1), -1);
        }
        stays("these", x, before);
        taken("both(7, 0, 1, 0)", x, x.both(7, 0, 1, 0), 5);
    }

    @Holds(in = "Promise 21", words = "way;")
    void bothOfNoWay() {
        MarkTables x = withActs();
        String before = Dues.view(x);
        for (int way : new int[] {-1, 2, LOW, HIGH}) {
            refused("both(0, 0, 1, " + way + ")", x, x.both(0, 0, 1, way), -1);
            refused("ahead of -2", x, x.both(0, 7, 7, way), -1);
        }
        stays("these", x, before);
    }

    @Holds(in = "Promise 21", words = "-2;")
    void bothOfMissingActs() {
        MarkTables x = withActs();
        String before = Dues.view(x);
        for (int way = 0; way < 2; way++) {
            for (int b : MISSING) {
                refused("both(0, " + b + ", 1, " + way + ")", x, x.both(0, b, 1, way), -2);
                refused("both(0, 1, " + b + ", " + way + ")", x, x.both(0, 1, b, way), -2);
                refused("both(6, 6, " + b + ", " + way + ")", x, x.both(6, 6, b, way), -2);
            }
        }
        stays("these", x, before);
    }

    @Holds(in = "Promise 21", words = "-5.")
    void bothTooMany() {
        MarkTables x = withPlaces(0, 1000000, 1000000);
        putPlaces(x, 1, 1000);
        putPlaces(x, 2);
        taken("just 10 to the 15 pairs", x, x.both(3, 0, 1, 1), MOST);
        refused("one more beside", x, x.both(5, 3, 2, 0), -5);
        refused("as many beside", x, x.both(5, 3, 3, 0), -5);
        taken("times one", x, x.both(5, 3, 2, 1), MOST);
        putPlaces(x, 4, 1001);
        refused("10 to the 15 and 10 to the 12", x, x.both(5, 0, 4, 1), -5);
        refused("the other way round", x, x.both(5, 4, 0, 1), -5);
        refused("10 to the 30", x, x.both(5, 3, 3, 1), -5);
        putPlaces(x, 6, 0);
        taken("none of them", x, x.both(7, 3, 6, 1), 0);
        taken("none of them", x, x.both(7, 6, 3, 1), 0);
        taken("none beside them", x, x.both(7, 6, 3, 0), MOST);
        due("act 5 is as it was", x.act(5, 0, 0), MOST);
    }

    @Holds(in = "Promise 21", words = "; -5.")
    void bothBeyondALong() {
        MarkTables x = withPlaces(0, 65536, 65536);
        refused("2 to the 64 wraps around to 0", x, x.both(1, 0, 0, 1), -5);
        putPlaces(x, 1, 65536, 65536, 2);
        refused("2 to the 65", x, x.both(0, 0, 1, 1), -5);
        due("act 0 is as it was", x.act(0, 0, 0), 1L << 32);
        MarkTables two = Dues.groupOf(2, Dues.order(1, 0));
        two.coset(0, 0);
        two.many(0, 0, 500000);
        two.coset(1, 0);
        two.many(1, 1, 500000);
        two.many(1, 1, 1000);
        taken("10 to the 15 with one turn more", two, two.both(2, 0, 1, 1), MOST);
        partsAre("in halves", two, 2, MOST / 2, 0);
    }

    // ---- promise 22: colour

    @Holds(in = "Promise 22", words = "ACT a becomes all colourings of the places of ACT b with k colours")
    void colourings() {
        MarkTables x = withActs();
        taken("colour(3, 0, 2)", x, x.colour(3, 0, 2), 8);
        partsAre("three places", x, 3, 0, 2, 0, 2);
        marksAre("three places", x, 3, 8, 4, 2, 2);
        taken("two places", x, x.colour(3, 1, 3), 9);
        marksAre("two places", x, 3, 9, 3, 9, 3);
        taken("in its own place", x, x.colour(0, 0, 2), 8);
        MarkTables four = Dues.fourPlaces();
        four.places(0, 1, 0);
        long[] upToTurning = {0, 1, 5, 15, 35, 70};
        for (int k = 0; k <= 5; k++) {
            due("of four places with " + k, four.colour(1, 0, k), (long) k * k * k * k);
            due("up to turning", four.act(1, 1, 0), upToTurning[k]);
        }
    }

    @Holds(in = "Promise 22", words = "(0 .. 100): its places.")
    void coloursFromNoneToHundred() {
        MarkTables x = withActs();
        taken("no colour", x, x.colour(3, 0, 0), 0);
        partsAre("no colour", x, 3, 0, 0, 0, 0);
        taken("one colour", x, x.colour(3, 0, 1), 1);
        partsAre("one colour", x, 3, 0, 0, 0, 1);
        taken("a hundred", x, x.colour(3, 0, 100), 1000000);
        due("up to turning", x.act(3, 1, 0), 171700);
        for (int k : new int[] {0, 1, 2, 100}) {
            taken("no places have one colouring", x, x.colour(3, 2, k), 1);
            marksAre("no places", x, 3, 1, 1, 1, 1);
        }
    }

    @Holds(in = "Promise 22", words = "-1 a")
    void colourForNoAct() {
        MarkTables x = withActs();
        String before = Dues.view(x);
        for (int a : NO_ACTS) {
            refused("colour(" + a + ", 0, 2)", x, x.colour(a, 0, 2), -1);
            refused("ahead of -2", x, x.colour(a, 7, 2), -1);
        }
        stays("these", x, before);
        taken("colour(7, 0, 2)", x, x.colour(7, 0, 2), 8);
    }

    @Holds(in = "Promise 22", words = "k;")
    void coloursThatCannotBe() {
        MarkTables x = withActs();
        String before = Dues.view(x);
        for (int k : new int[] {-1, 101, LOW, HIGH}) {
            refused("colour(0, 0, " + k + ")", x, x.colour(0, 0, k), -1);
            refused("ahead of -2", x, x.colour(0, 7, k), -1);
        }
        stays("these", x, before);
    }

    @Holds(in = "Promise 22", words = "-2;")
    void colourOfMissingActs() {
        MarkTables x = withActs();
        String before = Dues.view(x);
        for (int b : MISSING) {
            for (int k : new int[] {0, 1, 2, 100}) {
                refused("colour(0, " + b + ", " + k + ")", x, x.colour(0, b, k), -2);
                refused("colour(6, " + b + ", " + k + ")", x, x.colour(6, b, k), -2);
            }
        }
        stays("these", x, before);
    }

    @Holds(in = "Promise 22", words = "-5.")
    void colourTooMany() {
        int[] colours = {2, 3, 7, 10, 31, 32, 99, 100};
        int[] most = {49, 31, 17, 15, 10, 9, 7, 7};
        for (int i = 0; i < colours.length; i++) {
            long want = 1;
            for (int j = 0; j < most[i]; j++) {
                want *= colours[i];
            }
            MarkTables x = withPlaces(0, most[i]);
            taken(most[i] + " places with " + colours[i], x, x.colour(2, 0, colours[i]), want);
            due("as many parts", x.parts(2, 0), want);
            putPlaces(x, 1, most[i] + 1);
            refused("one place more", x, x.colour(2, 1, colours[i]), -5);
            due("act 2 is as it was", x.act(2, 0, 0), want);
        }
        MarkTables x = withPlaces(0, 15);
        taken("just 10 to the 15", x, x.colour(1, 0, 10), MOST);
        refused("of them with 2", x, x.colour(2, 1, 2), -5);
        taken("of them with 1", x, x.colour(2, 1, 1), 1);
        taken("of them with 0", x, x.colour(2, 1, 0), 0);
    }

    @Holds(in = "Promise 22", words = "; -5.")
    void colourBeyondALong() {
        for (int places : new int[] {50, 63, 64, 65, 128, 1000000}) {
            MarkTables x = withPlaces(0, places);
            refused("2 to the " + places, x, x.colour(1, 0, 2), -5);
            refused("16 to the " + places, x, x.colour(1, 0, 16), -5);
            refused("100 to the " + places, x, x.colour(1, 0, 100), -5);
            due("acts", x.count(4), 1);
        }
        MarkTables sixteen = withPlaces(0, 16);
        refused("16 to the 16 wraps around to 0", sixteen, sixteen.colour(1, 0, 16), -5);
    }

    // ---- promise 23: many

    @Holds(in = "Promise 23", words = "ACT a becomes ACT b, k times side by side")
    void times() {
        MarkTables x = withActs();
        taken("many(3, 0, 3)", x, x.many(3, 0, 3), 9);
        partsAre("three times", x, 3, 0, 3, 0, 0);
        marksAre("three times", x, 3, 9, 3, 0, 0);
        taken("once", x, x.many(4, 1, 1), 2);
        due("it is the same", x.same(1, 4), -1);
        taken("in its own place", x, x.many(0, 0, 2), 6);
        partsAre("in its own place", x, 0, 0, 2, 0, 0);
    }

    @Holds(in = "Promise 23", words = "(0 .. 1,000,000): its places.")
    void fromNoneToAMillion() {
        MarkTables x = withActs();
        taken("no times", x, x.many(3, 0, 0), 0);
        partsAre("no times", x, 3, 0, 0, 0, 0);
        due("it is there", x.count(4), 4);
        taken("a million times", x, x.many(3, 0, 1000000), 3000000);
        partsAre("a million times", x, 3, 0, 1000000, 0, 0);
        marksAre("a million times", x, 3, 3000000, 1000000, 0, 0);
        taken("an empty one a million times", x, x.many(3, 2, 1000000), 0);
    }

    @Holds(in = "Promise 23", words = "-1;")
    void manyThatCannotBe() {
        MarkTables x = withActs();
        String before = Dues.view(x);
        for (int k : new int[] {-1, 1000001, LOW, HIGH}) {
            refused("many(0, 0, " + k + ")", x, x.many(0, 0, k), -1);
            refused("ahead of -2", x, x.many(0, 7, k), -1);
        }
        for (int a : NO_ACTS) {
            refused("many(" + a + ", 0, 1)", x, x.many(a, 0, 1), -1);
            refused("ahead of -2", x, x.many(a, 7, 1), -1);
        }
        stays("these", x, before);
    }

    @Holds(in = "Promise 23", words = "-2;")
    void manyOfMissingActs() {
        MarkTables x = withActs();
        String before = Dues.view(x);
        for (int b : MISSING) {
            for (int k : new int[] {0, 1, 1000000}) {
                refused("many(0, " + b + ", " + k + ")", x, x.many(0, b, k), -2);
                refused("many(6, " + b + ", " + k + ")", x, x.many(6, b, k), -2);
            }
        }
        stays("these", x, before);
    }

    @Holds(in = "Promise 23", words = "-5.")
    void manyTooMany() {
        MarkTables x = withPlaces(0, 1000000, 1000000);
        taken("just 10 to the 15", x, x.many(1, 0, 1000), MOST);
        refused("1001 times", x, x.many(1, 0, 1001), -5);
        refused("a million times", x, x.many(1, 0, 1000000), -5);
        due("act 1 is as it was", x.act(1, 0, 0), MOST);
        taken("once", x, x.many(2, 1, 1), MOST);
        taken("no times", x, x.many(3, 1, 0), 0);
        refused("twice", x, x.many(4, 1, 2), -5);
        due("acts", x.count(4), 4);
        MarkTables three = withActs();
        three.many(3, 0, 1000000);
        three.many(3, 3, 1000000);
        taken("999 times 10 to the 12", three, three.many(4, 3, 333), 999000000000000L);
        refused("3 times 10 to the 12 more", three, three.many(4, 3, 334), -5);
    }

    @Holds(in = "Promise 23", words = "; -5.")
    void manyBeyondALong() {
        MarkTables x = withPlaces(0, 524288, 524288, 128);
        due("2 to the 45", x.act(0, 0, 0), 1L << 45);
        refused("2 to the 64 wraps around to 0", x, x.many(0, 0, 524288), -5);
        refused("2 to the 63", x, x.many(0, 0, 262144), -5);
        putPlaces(x, 1, 1000000, 1000000, 1000);
        refused("10 to the 21", x, x.many(1, 1, 1000000), -5);
        due("act 0 is as it was", x.act(0, 0, 0), 1L << 45);
        due("act 1 is as it was", x.act(1, 0, 0), MOST);
    }
}
