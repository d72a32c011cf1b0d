/** The sentences of promises 1 to 5: a new object, sheets, the group, what is counted. */
final class GroupTold extends Told {

    // ---- promise 1: a new object

    @Holds(in = "Promise 1", words = "One PLACE")
    void newHasOnePlace() {
        MarkTables x = new MarkTables();
        due("count(0)", x.count(0), 1);
        due("turn(0, 0)", x.turn(0, 0), 0);
        due("turn(0, 1)", x.turn(0, 1), -1);
        taken("places(0, 1, 0)", x, x.places(0, 1, 0), 1);
        refused("places(0, 2, 0)", x, x.places(0, 2, 0), -1);
    }

    @Holds(in = "Promise 1", words = "one TURN")
    void newHasOneTurn() {
        MarkTables x = new MarkTables();
        due("count(1)", x.count(1), 1);
        due("count(2)", x.count(2), 1);
        due("count(3)", x.count(3), 1);
        due("turn(1, 0)", x.turn(1, 0), -1);
        due("product(0, 0)", x.product(0, 0), 0);
        due("product(0, 1)", x.product(0, 1), -1);
        due("has(0, 0)", x.has(0, 0), 1);
    }

    @Holds(in = "Promise 1", words = "no SHEETS")
    void newHasNoSheets() {
        MarkTables x = new MarkTables();
        for (int s = 0; s < 4; s++) {
            refused("write(" + s + ", 0, 0)", x, x.write(s, 0, 0), -2);
        }
        taken("group(8)", x, x.group(8), 1);
    }

    @Holds(in = "Promise 1", words = "no ACTS.")
    void newHasNoActs() {
        MarkTables x = new MarkTables();
        due("count(4)", x.count(4), 0);
        due("count(5)", x.count(5), 0);
        due("misfit()", x.misfit(), -1);
        for (int a = 0; a < 8; a++) {
            due("act(" + a + ", 0, 0)", x.act(a, 0, 0), -1);
            refused("many(0, " + a + ", 1)", x, x.many(0, a, 1), -2);
        }
        for (int k = 0; k < 3; k++) {
            refused("back(" + k + ")", x, x.back(k), -2);
        }
    }

    // ---- promise 2: sheet

    @Holds(in = "Promise 2", words = "A SHEET becomes a row of a sort")
    void sheetBecomesOfASort() {
        MarkTables x = new MarkTables();
        x.sheet(0, 2, 2);
        x.write(0, 0, 257);
        refused("257 of ints", x, x.group(2), -6);
        x.sheet(0, 0, 2);
        x.write(0, 0, 257);
        taken("257 of bytes", x, x.group(2), 2);
        x.sheet(0, 1, 2);
        x.write(0, 0, 257);
        refused("257 of shorts", x, x.group(2), -6);
        Dues.lay(x, 1, 0, 1, 3, 2);
        x.sheet(0, 0, 0);
        taken("another sheet is as it was", x, x.group(4), 2);
    }

    @Holds(in = "Promise 2", words = "with n numbers 0: n.")
    void sheetHasNumbersNought() {
        for (int sort = 0; sort < 3; sort++) {
            MarkTables x = new MarkTables();
            for (int n = 0; n <= 8; n++) {
                taken("sheet(3, " + sort + ", " + n + ")", x, x.sheet(3, sort, n), n);
                for (int i = 0; i < n; i++) {
                    taken("write(3, " + i + ")", x, x.write(3, i, 7 - i), 0);
                }
                refused("write(3, " + n + ")", x, x.write(3, n, 0), -3);
            }
            x.sheet(3, sort, 8);
            refused("eight times 0 is no order", x, x.group(8), -6);
            x.sheet(3, sort, 1);
            taken("0 alone is one", x, x.group(8), 1);
            x.sheet(3, sort, 2);
            x.write(3, 0, 1);
            taken("1 and 0", x, x.group(2), 2);
            x.sheet(3, sort, 2);
            x.write(3, 1, 1);
            taken("0, as it is anew, and 1", x, x.group(2), 1);
        }
    }

    @Holds(in = "Promise 2", words = "-1 SHEET")
    void sheetOfNoNumber() {
        MarkTables x = new MarkTables();
        for (int s : new int[] {-1, 4, LOW, HIGH}) {
            refused("sheet(" + s + ", 0, 2)", x, x.sheet(s, 0, 2), -1);
        }
        taken("sheet(0, 0, 2)", x, x.sheet(0, 0, 2), 2);
        taken("sheet(3, 0, 2)", x, x.sheet(3, 0, 2), 2);
    }

    @Holds(in = "Promise 2", words = "sort, n above 8")
    void sheetOfNoSort() {
        MarkTables x = new MarkTables();
        Dues.lay(x, 0, 1, 0);
        for (int sort : new int[] {-1, 3, LOW, HIGH}) {
            refused("sheet(0, " + sort + ", 2)", x, x.sheet(0, sort, 2), -1);
        }
        taken("the sheet is as it was", x, x.group(2), 2);
    }

    @Holds(in = "Promise 2", words = "n above 8")
    void sheetTooLong() {
        MarkTables x = new MarkTables();
        Dues.lay(x, 0, 1, 0);
        for (int n : new int[] {9, 10, 256, HIGH}) {
            refused("sheet(0, 0, " + n + ")", x, x.sheet(0, 0, n), -1);
        }
        taken("the sheet is as it was", x, x.group(2), 2);
        taken("sheet(0, 0, 8)", x, x.sheet(0, 0, 8), 8);
        taken("write(0, 7, 0)", x, x.write(0, 7, 0), 0);
    }

    @Holds(in = "Promise 2", words = "; -4")
    void sheetOfALengthBelowNought() {
        MarkTables x = new MarkTables();
        for (int n : new int[] {-1, -2, -8, LOW}) {
            refused("sheet(0, 0, " + n + ")", x, x.sheet(0, 0, n), -4);
            refused("sheet(3, 2, " + n + ")", x, x.sheet(3, 2, n), -4);
        }
        taken("sheet(0, 0, 0)", x, x.sheet(0, 0, 0), 0);
        refused("-1 is ahead of it", x, x.sheet(-1, 0, -1), -1);
        refused("-1 is ahead of it", x, x.sheet(0, 3, -1), -1);
        refused("that left the sheet", x, x.write(0, 0, 0), -3);
    }

    @Holds(in = "Promise 2", words = "(then it is missing).")
    void sheetIsMissingThen() {
        MarkTables x = new MarkTables();
        Dues.lay(x, 0, 1, 0);
        Dues.lay(x, 1, 0, 1, 3, 2);
        taken("by both", x, x.group(4), 4);
        refused("sheet(0, 1, -1)", x, x.sheet(0, 1, -1), -4);
        refused("write(0, 0, 1)", x, x.write(0, 0, 1), -2);
        due("the group is as it was", x.count(1), 4);
        taken("by the other alone", x, x.group(4), 2);
        taken("the other is there", x, x.write(1, 0, 0), 0);
        taken("it can be there again", x, x.sheet(0, 0, 1), 1);
        taken("and be written", x, x.write(0, 0, 0), 0);
    }

    // ---- promise 3: write

    @Holds(in = "Promise 3", words = "A number of it")
    void writesANumber() {
        MarkTables x = new MarkTables();
        x.sheet(2, 0, 8);
        for (int i = 0; i < 8; i++) {
            taken("write(2, " + i + ")", x, x.write(2, i, (i + 1) % 8), 0);
        }
        taken("group(8)", x, x.group(8), 8);
        x.write(2, 7, 7);
        refused("one number changed", x, x.group(8), -6);
        x.write(2, 7, 0);
        taken("and back", x, x.group(8), 8);
    }

    /** Writes v ahead of a 0, and asks for the turns of two places. */
    private static int turnsWith(int sort, int v) {
        MarkTables x = new MarkTables();
        x.sheet(0, sort, 2);
        x.write(0, 0, v);
        return x.group(2);
    }

    @Holds(in = "Promise 3", words = ", as a byte")
    void writesAByte() {
        for (int v : new int[] {1, 257, -255, 65537, LOW + 1, 0x7fffff01}) {
            due(v + " is 1", turnsWith(0, v), 2);
        }
        for (int v : new int[] {2, 127, 128, 129, 255, -1, -127, 256, HIGH, LOW}) {
            due(v + " is not 1", turnsWith(0, v), -6);
        }
        MarkTables x = new MarkTables();
        x.sheet(0, 0, 2);
        x.write(0, 1, 257);
        for (int v : new int[] {0, 256, -256, 65536, LOW}) {
            taken("write " + v, x, x.write(0, 0, v), 0);
            due(v + " is 0", x.group(2), 1);
        }
    }

    @Holds(in = "Promise 3", words = "short")
    void writesAShort() {
        for (int v : new int[] {1, 65537, -65535, LOW + 1, 0x7fff0001}) {
            due(v + " is 1", turnsWith(1, v), 2);
        }
        for (int v : new int[] {2, 257, -255, 32767, 32768, 32769, 65535, -1, HIGH, LOW}) {
            due(v + " is not 1", turnsWith(1, v), -6);
        }
    }

    @Holds(in = "Promise 3", words = "int has its lowest bits: 0.")
    void writesAnInt() {
        due("1 is 1", turnsWith(2, 1), 2);
        for (int v : new int[] {0, 2, 257, 65537, -255, -65535, LOW + 1, -1, HIGH, LOW}) {
            due(v + " is not 1", turnsWith(2, v), -6);
        }
        MarkTables x = new MarkTables();
        x.sheet(0, 2, 1);
        taken("write(0, 0, HIGH)", x, x.write(0, 0, HIGH), 0);
        taken("write(0, 0, LOW)", x, x.write(0, 0, LOW), 0);
    }

    @Holds(in = "Promise 3", words = "-1 no SHEET 0 .. 3;")
    void writesNoSheet() {
        MarkTables x = Dues.groupOf(2, Dues.order(1, 0), Dues.order(1, 0), Dues.order(1, 0), Dues.order(1, 0));
        for (int s : new int[] {-1, 4, 5, LOW, HIGH}) {
            refused("write(" + s + ", 0, 0)", x, x.write(s, 0, 0), -1);
        }
        taken("write(0, 0, 1)", x, x.write(0, 0, 1), 0);
        taken("write(3, 0, 1)", x, x.write(3, 0, 1), 0);
        due("they are as they were", x.group(2), 2);
    }

    @Holds(in = "Promise 3", words = "-2 it is missing")
    void writesAMissingSheet() {
        MarkTables x = new MarkTables();
        x.sheet(1, 0, 8);
        refused("write(0, 0, 0)", x, x.write(0, 0, 0), -2);
        refused("write(2, 0, 0)", x, x.write(2, 0, 0), -2);
        refused("ahead of -3", x, x.write(0, -1, 0), -2);
        x.sheet(1, 0, -1);
        refused("taken away", x, x.write(1, 0, 0), -2);
        x.sheet(1, 0, 0);
        refused("an empty one is not missing", x, x.write(1, 0, 0), -3);
    }

    @Holds(in = "Promise 3", words = "; -3.")
    void writesNoSuchPlace() {
        MarkTables x = new MarkTables();
        Dues.lay(x, 0, 1, 0);
        for (int i : new int[] {2, 7, 8, HIGH, -1, LOW}) {
            refused("write(0, " + i + ", 5)", x, x.write(0, i, 5), -3);
        }
        taken("the sheet is as it was", x, x.group(8), 2);
        taken("write(0, 1, 0)", x, x.write(0, 1, 0), 0);
        x.sheet(0, 0, 8);
        x.sheet(0, 0, 2);
        refused("of a longer row ahead", x, x.write(0, 2, 0), -3);
    }

    // ---- promise 4: group

    @Holds(in = "Promise 4", words = "THE GROUP of n PLACES by the SHEETS")
    void groupBySheets() {
        MarkTables x = new MarkTables();
        Dues.lay(x, 0, 1, 0);
        due("sheets alone change nothing", x.count(1), 1);
        for (int n = 2; n <= 8; n++) {
            taken("group(" + n + ")", x, x.group(n), 2);
            due("places", x.count(0), n);
        }
        x.write(0, 0, 0);
        x.write(0, 1, 1);
        due("nor does a number", x.turn(1, 0), 1);
        taken("group(8)", x, x.group(8), 1);
    }

    @Holds(in = "Promise 4", words = "THE GROUP of n PLACES")
    void groupBehindOtherGroups() {
        int[][][] orders = {{{1, 2, 3, 0}, {1, 0}}, {{1, 2, 0}, {1, 0}}, {{1, 2, 3, 4, 0}, {1, 0}}, {},
            {{1, 0}, {0, 1, 3, 2}}, Groups.MOST_HEAPS, {{1, 2, 3, 4, 5, 0}}, {{1, 0}}, Groups.FOUR_PAIRS,
            {{1, 2, 3, 0}, {1, 0}, {0, 1, 2, 3, 5, 4}}};
        MarkTables x = new MarkTables();
        for (int i = 0; i < 2 * orders.length * orders.length; i++) {
            int one = i % 2 == 0 ? i / 2 / orders.length : i / 2 % orders.length;
            Groups.lay(x, orders[one]);
            x.group(8);
            String alone = Groups.view(Dues.groupOf(8, orders[one]));
            isTrue("group " + one + " at step " + i + " is as it is alone", alone.equals(Groups.view(x)));
        }
    }

    @Holds(in = "Promise 4", words = "(at most n of the numbers of each are looked at)")
    void groupLooksAtNumbers() {
        MarkTables x = new MarkTables();
        Dues.lay(x, 0, 0, 2, 1, 9, 9, 9, 9, 9);
        Dues.lay(x, 3, 0, 2, 1, -1, -1);
        taken("group(1)", x, x.group(1), 1);
        refused("group(2)", x, x.group(2), -6);
        taken("group(3)", x, x.group(3), 2);
        refused("group(4)", x, x.group(4), -6);
        Dues.lay(x, 0, 7, 1, 2, 3, 4, 5, 6, 0);
        x.sheet(3, 0, -1);
        taken("all eight", x, x.group(8), 2);
        refused("place 7 is none of seven", x, x.group(7), -6);
    }

    @Holds(in = "Promise 4", words = ": how many TURNS.")
    void groupAnswersTurns() {
        MarkTables x = new MarkTables();
        int[][][] orders = {{}, {{1, 0}}, {{1, 2, 0}}, {{1, 2, 0}, {1, 0}}, {{1, 2, 3, 4, 5, 6, 0}, {0, 3, 6, 2, 5, 1, 4}},
            {{1, 2, 3, 4, 0}, {1, 2, 0}}, {{1, 2, 3, 4, 0}, {1, 0}}};
        int[] turns = {1, 2, 3, 6, 42, 60, 120};
        for (int i = 0; i < turns.length; i++) {
            Groups.lay(x, orders[i]);
            taken("group " + i, x, x.group(8), turns[i]);
            due("count(1)", x.count(1), turns[i]);
            due("the last turn is there", x.product(0, turns[i] - 1), turns[i] - 1);
            due("and none behind it", x.product(0, turns[i]), -1);
        }
    }

    @Holds(in = "Promise 4", words = "-1 n;")
    void groupOfNoPlaces() {
        MarkTables x = Dues.threePlaces();
        for (int n : new int[] {0, 9, -1, LOW, HIGH}) {
            refused("group(" + n + ")", x, x.group(n), -1);
        }
        due("turns", x.count(1), 6);
        Dues.lay(x, 0);
        Dues.lay(x, 1);
        taken("group(1)", x, x.group(1), 1);
        taken("group(8)", x, x.group(8), 1);
    }

    @Holds(in = "Promise 4", words = "-6;")
    void groupOfNoOrder() {
        MarkTables x = new MarkTables();
        Dues.lay(x, 0, 1, 2, 0);
        for (int s = 1; s < 4; s++) {
            Dues.lay(x, s, 0, 0, 2);
            refused("sheet " + s + " has 0 twice", x, x.group(3), -6);
            Dues.lay(x, s, 0, 3);
            refused("sheet " + s + " has 3, which is no place", x, x.group(3), -6);
            Dues.lay(x, s, 0, 2);
            refused("sheet " + s + " has 2, which stays", x, x.group(3), -6);
            Dues.lay(x, s, -1, 1);
            refused("sheet " + s + " has -1", x, x.group(3), -6);
            x.sheet(s, 0, -1);
        }
        taken("without these", x, x.group(3), 3);
    }

    @Holds(in = "Promise 4", words = "-5 TURNS")
    void groupOfTooManyTurns() {
        MarkTables x = new MarkTables();
        Dues.lay(x, 0, 1, 2, 3, 4, 0);
        Dues.lay(x, 1, 1, 0);
        taken("120", x, x.group(8), 120);
        Dues.lay(x, 0, 1, 2, 3, 4, 5, 0);
        refused("720", x, x.group(6), -5);
        Groups.lay(x, Groups.MORE_TURNS);
        refused("128", x, x.group(8), -5);
        due("turns", x.count(1), 120);
    }

    @Holds(in = "Promise 4", words = ", HEAPS.")
    void groupOfTooManyHeaps() {
        MarkTables x = new MarkTables();
        Groups.lay(x, Groups.MORE_HEAPS);
        refused("64 turns with 389", x, x.group(8), -5);
        Groups.lay(x, Groups.MANY_MORE_HEAPS);
        refused("96 turns with 420", x, x.group(8), -5);
        x.sheet(3, 0, -1);
        taken("48 turns", x, x.group(8), 48);
        due("with 98", x.count(2), 98);
    }

    @Holds(in = "Promise 4", words = "ACTS are missing")
    void groupLeavesNoActs() {
        MarkTables x = Dues.threePlaces();
        for (int a = 0; a < 8; a++) {
            x.coset(a, 1);
        }
        taken("the same group", x, x.group(3), 6);
        due("acts", x.count(4), 0);
        for (int a = 0; a < 8; a++) {
            due("parts(" + a + ", 1)", x.parts(a, 1), -1);
            due("mark(" + a + ", 1)", x.mark(a, 1), -1);
        }
    }

    @Holds(in = "Promise 4", words = "ACTS are missing")
    void actsOfAGreaterGroup() {
        MarkTables x = Dues.groupOf(4, Dues.order(1, 0), Dues.order(0, 1, 3, 2));
        x.coset(0, 4);
        x.many(0, 0, 1000000);
        x.coset(1, 0);
        Groups.lay(x, new int[][] {{1, 2, 0}, {1, 0}});
        taken("a group of fewer classes", x, x.group(3), 6);
        x.coset(0, 1);
        x.coset(1, 1);
        due("parts", x.act(0, 1, 0), 1);
        due("same", x.same(0, 1), -1);
        due("maps", x.maps(0, 1, 0), 1);
        due("maps on to all", x.maps(0, 1, 1), 1);
        x.heaps(2);
        due("heaps", x.act(2, 0, 0), 6);
        x.both(3, 0, 1, 1);
        partsAre("pairs", x, 3, 1, 1, 0, 0);
    }

    @Holds(in = "Promise 4", words = ", the ROW is empty then")
    void groupLeavesAnEmptyRow() {
        MarkTables x = Dues.threePlaces();
        Dues.fillRow(x, 9, 9, 9, 9);
        refused("the row is full", x, x.row(9), -5);
        taken("the same group", x, x.group(3), 6);
        due("count(5)", x.count(5), 0);
        taken("row(3)", x, x.row(3), 1);
        Dues.fillRow(x, 1, 0, 0);
        taken("check(0), of the new numbers alone", x, x.check(0), 2);
        x.sheet(0, 0, 0);
        x.sheet(1, 0, 0);
        x.group(3);
        taken("with one class", x, x.row(7), 1);
        refused("there is no room for two", x, x.row(7), -5);
    }

    @Holds(in = "Promise 4", words = "if it is REFUSED, all stays.")
    void groupRefused() {
        MarkTables x = Dues.threePlaces();
        x.coset(0, 1);
        x.heaps(7);
        Dues.fillRow(x, 1, 0, 0, 0);
        x.check(0);
        Dues.fillRow(x, 5, -6);
        String before = Dues.view(x);
        refused("-1", x, x.group(0), -1);
        stays("-1", x, before);
        Dues.lay(x, 3, 1, 1);
        refused("-6", x, x.group(3), -6);
        stays("-6", x, before);
        Groups.lay(x, Groups.MORE_TURNS);
        refused("-5 of turns", x, x.group(8), -5);
        stays("-5 of turns", x, before);
        Groups.lay(x, Groups.MORE_HEAPS);
        refused("-5 of heaps", x, x.group(8), -5);
        stays("-5 of heaps", x, before);
        refused("-5 once more", x, x.group(8), -5);
        stays("-5 once more", x, before);
        taken("the row goes on", x, x.row(0), 3);
        x.sheet(2, 0, -1);
        taken("sheets stay", x, x.group(8), 16);
    }

    // ---- promise 5: count

    @Holds(in = "Promise 5", words = "0 PLACES, 1 TURNS, 2 HEAPS, 3 CLASSES")
    void countsOfTheGroup() {
        MarkTables[] groups = {new MarkTables(), Dues.threePlaces(), Dues.fourPlaces(), Dues.fivePlaces(),
            Dues.evenFive(), Groups.mostTurnsOfEight(), Groups.mostHeaps()};
        int[][] want = {{1, 1, 1, 1}, {3, 6, 6, 4}, {4, 24, 30, 11}, {5, 120, 156, 19}, {5, 60, 59, 9},
            {8, 120, 132, 32}, {8, 96, 250, 56}};
        for (int i = 0; i < groups.length; i++) {
            for (int what = 0; what < 4; what++) {
                due("group " + i + " count(" + what + ")", groups[i].count(what), want[i][what]);
            }
        }
    }

    @Holds(in = "Promise 5", words = "4 ACTS that are there")
    void countsOfActs() {
        MarkTables x = Dues.threePlaces();
        due("none", x.count(4), 0);
        for (int a = 7; a >= 0; a--) {
            x.coset(a, 0);
            x.coset(a, 1);
            due("from " + a + " on", x.count(4), 8 - a);
        }
        x.many(0, 0, 0);
        due("an empty one is there", x.count(4), 8);
    }

    @Holds(in = "Promise 5", words = "5 numbers of the ROW.")
    void countsOfTheRow() {
        MarkTables x = Dues.threePlaces();
        for (int i = 0; i <= 4; i++) {
            due("numbers", x.count(5), i);
            x.row(i);
        }
        due("it is full", x.count(5), 4);
        x.check(-1);
        due("behind check()", x.count(5), 0);
    }

    @Holds(in = "Promise 5", words = "NONE for others.")
    void countsOfNothing() {
        MarkTables x = Dues.threePlaces();
        for (int what : new int[] {-1, 6, 7, LOW, HIGH}) {
            due("count(" + what + ")", x.count(what), -1);
        }
    }
}
