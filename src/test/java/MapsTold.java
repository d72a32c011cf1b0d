/** The sentences of promise 28: maps between acts. */
final class MapsTold extends Told {

    /** All of three places: acts 0 to 3 are the cosets, act 4 is empty. */
    private static MarkTables withCosets() {
        MarkTables x = Dues.threePlaces();
        for (int c = 0; c < 4; c++) {
            x.coset(c, c);
        }
        x.many(4, 3, 0);
        return x;
    }

    @Holds(in = "Promise 28", words = "How many maps lead ACT a's places to ACT b's,"
        + " so that what each TURN does goes along (way 0)")
    void along() {
        MarkTables x = withCosets();
        long[][] along = {{6, 3, 2, 1, 0}, {0, 1, 0, 1, 0}, {0, 0, 2, 1, 0}, {0, 0, 0, 1, 0}, {1, 1, 1, 1, 1}};
        for (int a = 0; a < 5; a++) {
            for (int b = 0; b < 5; b++) {
                due("maps(" + a + ", " + b + ", 0)", x.maps(a, b, 0), along[a][b]);
            }
        }
        x.many(5, 2, 3);
        due("three twos to themselves", x.maps(5, 5, 0), 216);
        x.both(6, 0, 1, 0);
        due("a six and a three to a three", x.maps(6, 1, 0), 3);
        due("and to themselves", x.maps(6, 6, 0), 9);
    }

    @Holds(in = "Promise 28", words = ", how many of these one to one and on to all (1).")
    void oneToOneAndOnToAll() {
        MarkTables x = withCosets();
        long[] onToAll = {6, 1, 2, 1, 1};
        for (int a = 0; a < 5; a++) {
            for (int b = 0; b < 5; b++) {
                due("maps(" + a + ", " + b + ", 1)", x.maps(a, b, 1), a == b ? onToAll[a] : 0);
            }
        }
        x.many(5, 2, 3);
        due("three twos", x.maps(5, 5, 1), 6 * 8);
        x.many(6, 1, 2);
        due("two threes", x.maps(6, 6, 1), 2);
        due("a six is no two threes", x.maps(0, 6, 1), 0);
        x.both(7, 5, 6, 0);
        due("all of these", x.maps(7, 7, 1), 6 * 8 * 2);
        x.places(7, 1, 0);
        due("another act with like marks", x.maps(1, 7, 1), 1);
    }

    @Holds(in = "Promise 28", words = "NONE;")
    void noMaps() {
        MarkTables x = withCosets();
        for (int way = 0; way < 2; way++) {
            for (int a : new int[] {5, 7, -1, 8, LOW, HIGH}) {
                due("maps(" + a + ", 0, " + way + ")", x.maps(a, 0, way), -1);
                due("maps(0, " + a + ", " + way + ")", x.maps(0, a, way), -1);
                due("maps(" + a + ", " + a + ", " + way + ")", x.maps(a, a, way), -1);
            }
        }
        for (int way : new int[] {-1, 2, LOW, HIGH}) {
            due("maps(0, 0, " + way + ")", x.maps(0, 0, way), -1);
        }
    }

    @Holds(in = "Promise 28", words = "-5 above 10 to the 15.")
    void alongAboveTheMost() {
        MarkTables x = withPlaces(0, 10);
        putPlaces(x, 1, 15);
        due("just 10 to the 15", x.maps(1, 0, 0), MOST);
        putPlaces(x, 1, 16);
        due("10 to the 16", x.maps(1, 0, 0), -5);
        putPlaces(x, 2, 1000000, 1000000, 1000);
        putPlaces(x, 3);
        due("one to 10 to the 15", x.maps(3, 2, 0), MOST);
        due("10 to the 15 to one", x.maps(2, 3, 0), 1);
        due("all to all", x.maps(2, 2, 0), -5);
        putPlaces(x, 4, 2);
        due("two to 10 to the 15", x.maps(4, 2, 0), -5);
        putPlaces(x, 5, 49);
        due("2 to the 49", x.maps(5, 4, 0), 1L << 49);
        putPlaces(x, 5, 50);
        due("2 to the 50", x.maps(5, 4, 0), -5);
        putPlaces(x, 6, 0);
        due("very many to none", x.maps(2, 6, 0), 0);
        due("none to very many", x.maps(6, 2, 0), 1);
    }

    @Holds(in = "Promise 28", words = "; -5 above 10 to the 15.")
    void onToAllAboveTheMost() {
        MarkTables x = withPlaces(0, 17);
        due("17 factorial", x.maps(0, 0, 1), 355687428096000L);
        putPlaces(x, 0, 18);
        due("18 factorial", x.maps(0, 0, 1), -5);
        putPlaces(x, 1, 1000000, 1000000, 1000);
        due("10 to the 15 factorial", x.maps(1, 1, 1), -5);
        due("no two alike is no number above it", x.maps(0, 1, 1), 0);
        MarkTables six = Dues.threePlaces();
        six.coset(0, 0);
        six.many(1, 0, 10);
        due("10 factorial times 6 to the 10", six.maps(1, 1, 1), 3628800L * 60466176L);
        six.many(1, 0, 11);
        due("11 factorial times 6 to the 11", six.maps(1, 1, 1), -5);
    }

    @Holds(in = "Promise 28", words = "-5 above 10 to the 15")
    void beyondALong() {
        MarkTables x = withPlaces(0, 65536, 65536);
        putPlaces(x, 1, 2);
        due("2 to the 64 wraps around to 0", x.maps(1, 0, 0), -5);
        putPlaces(x, 1, 3);
        due("2 to the 96", x.maps(1, 0, 0), -5);
        for (int places : new int[] {20, 21, 65, 66, 67, 1000000}) {
            putPlaces(x, 2, places);
            due(places + " factorial", x.maps(2, 2, 1), -5);
        }
    }

    @Holds(in = "Promise 28", words = "How many maps lead ACT a's places to ACT b's")
    void noneHoweverManyElse() {
        MarkTables x = Dues.groupOf(2, Dues.order(1, 0));
        x.coset(0, 0);
        x.coset(1, 1);
        x.many(2, 0, 1000000);
        x.many(3, 1, 1000000);
        x.both(4, 2, 1, 0);
        due("very many twos, and a one that can go nowhere", x.maps(4, 0, 0), 0);
        x.both(5, 0, 3, 0);
        due("a two, and very many ones that can go nowhere", x.maps(5, 0, 0), 0);
        x.both(6, 2, 3, 0);
        due("very many of both to themselves", x.maps(6, 6, 0), -5);
        due("very many of both to one", x.maps(6, 1, 0), 1);
    }
}
