import java.util.HashSet;
import java.util.Set;

/** The sentences of "Terms". */
final class TermsTold extends Told {

    // ---- I: places, turns, sheets, the group

    @Holds(in = "Terms", words = "I. PLACES 0 .. n - 1 (n 1 .. 8)")
    void placesAreOneToEight() {
        MarkTables x = new MarkTables();
        for (int n = 1; n <= 8; n++) {
            taken("group(" + n + ")", x, x.group(n), 1);
            due("places", x.count(0), n);
            due("place 0", x.turn(0, 0), 0);
            due("the last place", x.turn(0, n - 1), n - 1);
            due("beyond the last place", x.turn(0, n), -1);
            due("ahead of place 0", x.turn(0, -1), -1);
        }
        refused("group(0)", x, x.group(0), -1);
        refused("group(9)", x, x.group(9), -1);
    }

    @Holds(in = "Terms", words = "a TURN leads each to one, no two to one")
    void noTwoToOne() {
        MarkTables x = Dues.fourPlaces();
        Set<Integer> rows = new HashSet<>();
        for (int t = 0; t < 24; t++) {
            int taken = 0;
            int row = 0;
            for (int p = 0; p < 4; p++) {
                taken |= 1 << x.turn(t, p);
                row = row * 4 + x.turn(t, p);
            }
            due("places that turn " + t + " leads to", taken, 15);
            rows.add(row);
        }
        due("turns that differ", rows.size(), 24);
        Dues.lay(x, 0, 1, 1);
        refused("two to one", x, x.group(4), -6);
    }

    @Holds(in = "Terms", words = "SHEETS 0 .. 3, missing at first")
    void sheetsAreMissingAtFirst() {
        MarkTables x = new MarkTables();
        for (int s = 0; s <= 3; s++) {
            refused("write(" + s + ", 0, 0)", x, x.write(s, 0, 0), -2);
        }
        refused("write(-1, 0, 0)", x, x.write(-1, 0, 0), -1);
        refused("write(4, 0, 0)", x, x.write(4, 0, 0), -1);
        for (int s = 0; s <= 3; s++) {
            taken("sheet(" + s + ", 0, 1)", x, x.sheet(s, 0, 1), 1);
            taken("write(" + s + ", 0, 0)", x, x.write(s, 0, 0), 0);
        }
    }

    @Holds(in = "Terms", words = "are rows of bytes (sort 0), shorts (1) or ints (2)")
    void sorts() {
        int[] numbers = {257, 65537, 1};
        int[][] turns = {{2, 2, 2}, {-6, 2, 2}, {-6, -6, 2}};
        for (int sort = 0; sort < 3; sort++) {
            MarkTables x = new MarkTables();
            x.sheet(0, sort, 2);
            for (int i = 0; i < 3; i++) {
                x.write(0, 0, numbers[i]);
                due("sort " + sort + " and " + numbers[i], x.group(2), turns[sort][i]);
            }
        }
    }

    @Holds(in = "Terms", words = "number p of a SHEET tells where PLACE p goes")
    void numbersTellWhere() {
        MarkTables x = Dues.groupOf(8, Dues.order(0, 1, 2, 7, 4, 5, 6, 3));
        due("turns", x.count(1), 2);
        for (int p = 0; p < 8; p++) {
            due("turn(1, " + p + ")", x.turn(1, p), p == 3 ? 7 : p == 7 ? 3 : p);
        }
    }

    @Holds(in = "Terms", words = "PLACES beyond its end stay")
    void placesBeyondTheEnd() {
        MarkTables x = Dues.groupOf(8, Dues.order(1, 0));
        due("turns", x.count(1), 2);
        for (int p = 0; p < 8; p++) {
            due("turn(1, " + p + ")", x.turn(1, p), p == 0 ? 1 : p == 1 ? 0 : p);
        }
        Dues.lay(x, 0);
        taken("with an empty sheet", x, x.group(8), 1);
        Dues.lay(x, 0, 2, 0);
        refused("place 2 stays, so it is taken", x, x.group(3), -6);
    }

    @Holds(in = "Terms", words = "(of a missing one all)")
    void placesOfMissingSheets() {
        MarkTables x = new MarkTables();
        taken("without sheets", x, x.group(8), 1);
        for (int p = 0; p < 8; p++) {
            due("turn(0, " + p + ")", x.turn(0, p), p);
        }
        Dues.lay(x, 2, 1, 0);
        taken("with one sheet", x, x.group(8), 2);
        x.sheet(2, 0, -1);
        taken("when it is missing again", x, x.group(8), 1);
    }

    @Holds(in = "Terms", words = "THE GROUP: all TURNS that those of the four SHEETS come to, one behind the other")
    void turnsOfFourSheets() {
        for (int s = 0; s < 4; s++) {
            MarkTables x = new MarkTables();
            Dues.lay(x, s, Groups.FOUR_PAIRS[s]);
            taken("sheet " + s + " alone", x, x.group(8), 2);
            due("its turn", x.turn(1, 2 * s), 2 * s + 1);
        }
        due("all four", Dues.groupOf(8, Groups.FOUR_PAIRS).count(1), 16);
        due("a swap behind a round", Dues.threePlaces().count(1), 6);
        due("a round behind itself", Dues.groupOf(8, Dues.order(1, 2, 3, 4, 5, 6, 7, 0)).count(1), 8);
        due("the same twice", Dues.groupOf(2, Dues.order(1, 0), Dues.order(1, 0)).count(1), 2);
    }

    @Holds(in = "Terms", words = "numbered by what they do to PLACE 0, then 1, and so on, the lower first")
    void turnsAreNumbered() {
        MarkTables[] groups = {Dues.threePlaces(), Dues.fivePlaces(), Groups.mostTurnsOfEight(), Groups.mostHeaps()};
        for (MarkTables x : groups) {
            for (int t = 1; t < x.count(1); t++) {
                int p = 0;
                while (p < x.count(0) && x.turn(t - 1, p) == x.turn(t, p)) {
                    p++;
                }
                isTrue("turn " + t + " is behind the one ahead", x.turn(t - 1, p) < x.turn(t, p));
            }
        }
        MarkTables last = Dues.groupOf(8, Dues.order(0, 1, 2, 3, 4, 5, 7, 6), Dues.order(0, 1, 2, 3, 4, 6, 5));
        int[][] ends = {{5, 6, 7}, {5, 7, 6}, {6, 5, 7}, {6, 7, 5}, {7, 5, 6}, {7, 6, 5}};
        for (int t = 0; t < 6; t++) {
            for (int p = 5; p < 8; p++) {
                due("turn(" + t + ", " + p + ")", last.turn(t, p), ends[t][p - 5]);
            }
        }
    }

    @Holds(in = "Terms", words = "TURN 0 moves nothing")
    void turnNought() {
        MarkTables x = Dues.groupOf(8, Dues.order(7, 6, 5, 4, 3, 2, 1, 0));
        for (int p = 0; p < 8; p++) {
            due("turn(0, " + p + ")", x.turn(0, p), p);
            due("turn(1, " + p + ")", x.turn(1, p), 7 - p);
        }
    }

    @Holds(in = "Terms", words = "s times t is s first, then t.")
    void firstThenSecond() {
        MarkTables x = Dues.fourPlaces();
        for (int s = 0; s < 24; s++) {
            for (int t = 0; t < 24; t++) {
                for (int p = 0; p < 4; p++) {
                    due("s " + s + ", t " + t, x.turn(x.product(s, t), p), x.turn(t, x.turn(s, p)));
                }
            }
        }
        due("0 1 swapped, then 1 2 swapped", Dues.threePlaces().product(2, 1), 4);
        due("1 2 swapped, then 0 1 swapped", Dues.threePlaces().product(1, 2), 3);
    }

    @Holds(in = "Terms", words = "(One PLACE at first: one TURN.)")
    void onePlaceAtFirst() {
        MarkTables x = new MarkTables();
        due("places", x.count(0), 1);
        due("turns", x.count(1), 1);
        due("heaps", x.count(2), 1);
        due("classes", x.count(3), 1);
        int[] ofHeap = {1, 0, 1, 0, 0, 0, 1, 1, 1, 1};
        for (int what = 0; what < 10; what++) {
            due("heap(0, " + what + ")", x.heap(0, what), ofHeap[what]);
        }
        due("table(0, 0)", x.table(0, 0), 1);
        due("inverse", x.ofTurn(0, 0), 0);
        due("order", x.ofTurn(0, 1), 1);
        due("the heap it makes", x.ofTurn(0, 2), 0);
        due("led to it", x.ofTurn(0, 3), 1);
        due("down(10)", x.down(10), 0);
        due("heaps(0)", x.heaps(0), 1);
        due("places(0, 1, 1)", x.places(0, 1, 1), 1);
        due("group(1)", x.group(1), 1);
    }

    // ---- what calls are refused by

    @Holds(in = "Terms", words = "REFUSED by: -1 a number that can't be")
    void numbersThatCannotBe() {
        MarkTables x = Dues.threePlaces();
        x.coset(0, 0);
        x.row(1);
        String before = Dues.view(x);
        refused("sheet", x, x.sheet(4, 0, 0), -1);
        refused("write", x, x.write(4, 0, 0), -1);
        refused("group", x, x.group(9), -1);
        refused("coset", x, x.coset(8, 0), -1);
        refused("places", x, x.places(0, 4, 0), -1);
        refused("heaps", x, x.heaps(8), -1);
        refused("both", x, x.both(0, 0, 0, 2), -1);
        refused("colour", x, x.colour(0, 0, 101), -1);
        refused("many", x, x.many(0, 0, 1000001), -1);
        refused("row", x, x.row(MOST_IN_ROW + 1), -1);
        refused("check", x, x.check(0), -1);
        refused("image", x, x.image(3), -1);
        refused("back", x, x.back(3), -1);
        stays("all of these", x, before);
    }

    @Holds(in = "Terms", words = "-2 there is no such SHEET, HEAP, CLASS, ACT")
    void noSuchThings() {
        MarkTables x = Dues.threePlaces();
        x.coset(0, 0);
        String before = Dues.view(x);
        refused("no sheet", x, x.write(3, 0, 0), -2);
        refused("no class", x, x.coset(0, 4), -2);
        refused("no act for both", x, x.both(0, 0, 1, 0), -2);
        refused("no act for colour", x, x.colour(0, 1, 1), -2);
        refused("no act for many", x, x.many(0, 1, 1), -2);
        refused("no act for same", x, x.same(0, 1), -2);
        refused("no image", x, x.back(0), -2);
        stays("all of these", x, before);
    }

    @Holds(in = "Terms", words = "-3 no such place in a SHEET")
    void noSuchPlaceInASheet() {
        MarkTables x = new MarkTables();
        for (int n = 0; n <= 8; n++) {
            x.sheet(0, 0, n);
            refused("beyond the last of " + n, x, x.write(0, n, 0), -3);
            refused("ahead of the first of " + n, x, x.write(0, -1, 0), -3);
        }
    }

    @Holds(in = "Terms", words = "-4 a length below 0")
    void lengthBelowNought() {
        MarkTables x = new MarkTables();
        refused("sheet(0, 0, -1)", x, x.sheet(0, 0, -1), -4);
        refused("sheet(3, 2, LOW)", x, x.sheet(3, 2, LOW), -4);
        taken("sheet(0, 0, 0)", x, x.sheet(0, 0, 0), 0);
    }

    @Holds(in = "Terms", words = "-5 no room: more than 120 TURNS")
    void moreTurnsThanThereIsRoom() {
        due("120 of five places", Dues.fivePlaces().count(1), 120);
        due("120 of eight places", Groups.mostTurnsOfEight().count(1), 120);
        MarkTables x = new MarkTables();
        Groups.lay(x, Groups.MORE_TURNS);
        refused("128, the next that eight places have", x, x.group(8), -5);
        Dues.lay(x, 0, 1, 2, 3, 4, 5, 6, 7, 0);
        Dues.lay(x, 1, 1, 0);
        refused("40320, all of eight places", x, x.group(8), -5);
        due("it is the first group still", x.count(0), 1);
    }

    @Holds(in = "Terms", words = "300 HEAPS")
    void moreHeapsThanThereIsRoom() {
        MarkTables most = Groups.mostHeaps();
        due("96 turns", most.count(1), 96);
        due("with 250 heaps, the most that eight places have up to 300", most.count(2), 250);
        due("each lies in the whole", most.heap(249, 8), 250);
        due("each has the least", most.heap(0, 9), 250);
        MarkTables x = new MarkTables();
        Groups.lay(x, Groups.MORE_HEAPS);
        refused("64 turns with 389 heaps, the next that eight places have", x, x.group(8), -5);
        Groups.lay(x, Groups.MANY_MORE_HEAPS);
        refused("96 turns with 420 heaps", x, x.group(8), -5);
        due("it is the first group still", x.count(2), 1);
    }

    @Holds(in = "Terms", words = "or a number above 10 to the 15")
    void numbersAboveTheMost() {
        MarkTables x = withPlaces(0, 1000000, 1000000, 1000);
        taken("10 to the 15", x, x.many(1, 0, 1), MOST);
        putPlaces(x, 2);
        refused("one above it", x, x.both(1, 0, 2, 0), -5);
        refused("twice it", x, x.many(1, 0, 2), -5);
        refused("times itself", x, x.both(1, 0, 0, 1), -5);
        refused("coloured", x, x.colour(1, 0, 2), -5);
        due("maps, which only asks", x.maps(2, 0, 0), MOST);
    }

    @Holds(in = "Terms", words = "-6 a SHEET's numbers are no order of the PLACES.")
    void sheetsThatAreNoOrder() {
        int[][] none = {{0, 0}, {1, 1}, {1}, {-1, 0}, {2, 0}, {0, 2}, {HIGH, 0}, {LOW, 1}, {1, 256}};
        for (int s = 0; s < 4; s++) {
            for (int[] numbers : none) {
                MarkTables x = new MarkTables();
                Dues.lay(x, s, numbers);
                refused("sheet " + s + " with " + numbers[0] + " first", x, x.group(2), -6);
            }
        }
        MarkTables x = new MarkTables();
        Dues.lay(x, 0, 1, 0, 2, 3, 4, 5, 6, 8);
        refused("place 8 of eight", x, x.group(8), -6);
        Dues.lay(x, 0, 1, 0, 2, 3, 4, 5, 6, 7);
        taken("an order of eight", x, x.group(8), 2);
    }

    @Holds(in = "Terms", words = "The first of these in that order")
    void theFirstInOrder() {
        MarkTables x = Dues.threePlaces();
        x.coset(0, 0);
        refused("-1 ahead of -4", x, x.sheet(4, 0, -1), -1);
        refused("-1 ahead of -4", x, x.sheet(0, 3, LOW), -1);
        refused("-1 ahead of -2 and -3", x, x.write(4, 9, 0), -1);
        refused("-2 ahead of -3", x, x.write(3, 9, 0), -2);
        Dues.lay(x, 3, 5, 5);
        refused("-1 ahead of -6", x, x.group(9), -1);
        refused("-1 ahead of -2", x, x.coset(8, 4), -1);
        refused("-1 ahead of -2", x, x.both(0, 7, 0, 2), -1);
        refused("-1 ahead of -2", x, x.both(8, 0, 7, 0), -1);
        refused("-1 ahead of -2", x, x.colour(0, 7, 101), -1);
        refused("-1 ahead of -2", x, x.many(0, 7, -1), -1);
        x.many(1, 0, 1000000);
        x.many(1, 1, 1000000);
        refused("-1 ahead of -5", x, x.many(8, 1, 1000000), -1);
        refused("-1 ahead of -5", x, x.both(0, 1, 1, 2), -1);
        refused("-1 ahead of -5", x, x.colour(-1, 1, 2), -1);
        refused("-2 ahead of -5", x, x.both(0, 1, 7, 1), -2);
        Dues.fillRow(x, 0, 0, 0, 0);
        refused("-1 ahead of -5", x, x.row(MOST_IN_ROW + 1), -1);
        refused("-1 ahead of -2", x, x.back(-1), -1);
    }

    @Holds(in = "Terms", words = ", but where told.")
    void anotherOrderWhereTold() {
        MarkTables x = new MarkTables();
        Groups.lay(x, Groups.MORE_TURNS);
        refused("too many turns", x, x.group(8), -5);
        Dues.lay(x, 3, 0, 0);
        refused("-6 ahead of -5", x, x.group(8), -6);
        Groups.lay(x, Groups.MORE_HEAPS);
        refused("too many heaps", x, x.group(8), -5);
        Dues.lay(x, 3, 8);
        refused("-6 ahead of -5", x, x.group(8), -6);
    }

    @Holds(in = "Terms", words = "The constants: `NONE = -1`: There is none.")
    void constants() {
        due("NONE", MarkTables.NONE, -1);
        due("there is none", new MarkTables().count(6), MarkTables.NONE);
    }

    // ---- II: heaps and classes

    @Holds(in = "Terms", words = "II. HEAPS are sets of TURNS in which the product of any two lies")
    void heapsAreClosed() {
        MarkTables x = Dues.threePlaces();
        int closed = 0;
        for (int set = 1; set < 64; set++) {
            if (Groups.isClosed(x, set)) {
                closed++;
                int found = 0;
                for (int h = 0; h < x.count(2); h++) {
                    found += Groups.membersOf(x, h) == set ? 1 : 0;
                }
                due("set " + set + " is a heap", found, 1);
            }
        }
        due("heaps", x.count(2), closed);
        MarkTables four = Dues.fourPlaces();
        for (int h = 0; h < 30; h++) {
            isTrue("heap " + h + " is closed", Groups.isClosed(four, Groups.membersOf(four, h)));
        }
    }

    @Holds(in = "Terms", words = "numbered by their sizes, then by their TURNS' numbers, upwards, as rows.")
    void heapsAreNumbered() {
        MarkTables[] groups = {Dues.threePlaces(), Dues.fourPlaces(), Dues.fivePlaces(), Groups.mostHeaps()};
        for (MarkTables x : groups) {
            for (int h = 1; h < x.count(2); h++) {
                isTrue("heap " + h + " is behind the one ahead", Groups.compare(x, h - 1, h) < 0);
            }
        }
        int[][] members = {{0}, {0, 1}, {0, 2}, {0, 5}, {0, 3, 4}, {0, 1, 2, 3, 4, 5}};
        for (int h = 0; h < 6; h++) {
            int set = 0;
            for (int t : members[h]) {
                set |= 1 << t;
            }
            due("heap " + h, Groups.membersOf(groups[0], h), set);
        }
    }

    @Holds(in = "Terms", words = "Two are LIKE, if some TURN g leads one to the other"
        + " (all of inverse of g, times t, times g).")
    void likeHeaps() {
        MarkTables[] groups = {Dues.threePlaces(), Dues.fourPlaces(), Groups.quaternions()};
        for (MarkTables x : groups) {
            for (int h = 0; h < x.count(2); h++) {
                long like = Groups.likeHeaps(x, h);
                for (int k = 0; k < x.count(2); k++) {
                    due(h + " is like " + k, x.heap(h, 1) == x.heap(k, 1) ? 1 : 0, (like >> k) & 1);
                }
            }
        }
    }

    @Holds(in = "Terms", words = "CLASSES of LIKE ones are numbered by their first HEAPS.")
    void classesAreNumbered() {
        MarkTables[] groups = {Dues.threePlaces(), Dues.fivePlaces(), Groups.mostHeaps()};
        for (MarkTables x : groups) {
            int next = 0;
            for (int h = 0; h < x.count(2); h++) {
                if (x.heap(h, 1) == next) {
                    due("first of class " + next, x.ofClass(next, 2), h);
                    next++;
                }
                isTrue("heap " + h + " is of a class that is known", x.heap(h, 1) >= 0 && x.heap(h, 1) < next);
            }
            due("classes", x.count(3), next);
        }
    }

    @Holds(in = "Terms", words = "NORMAL is one that is LIKE none but itself.")
    void normalHeaps() {
        int[] normal = {1, 0, 0, 0, 1, 1};
        MarkTables x = Dues.threePlaces();
        for (int h = 0; h < 6; h++) {
            due("heap(" + h + ", 2)", x.heap(h, 2), normal[h]);
        }
        MarkTables four = Dues.fourPlaces();
        int found = 0;
        for (int h = 0; h < 30; h++) {
            found += four.heap(h, 2);
        }
        due("of four places: none, two pairs, the even ones, all", found, 4);
        MarkTables eight = Groups.quaternions();
        for (int h = 0; h < eight.count(2); h++) {
            due("of the quaternions all", eight.heap(h, 2), 1);
        }
    }

    @Holds(in = "Terms", words = "SIGN of a HEAP: 1 of the whole GROUP, of others less the sum of the SIGNS"
        + " of all HEAPS that it lies strictly within.")
    void signs() {
        MarkTables[] groups = {new MarkTables(), Dues.threePlaces(), Dues.fourPlaces(), Groups.mostHeaps()};
        for (MarkTables x : groups) {
            int whole = x.count(2) - 1;
            due("of the whole", x.heap(whole, 6), 1);
            for (int h = 0; h < whole; h++) {
                int sum = 0;
                for (int k = h + 1; k <= whole; k++) {
                    sum += x.join(h, k, 0) == h ? x.heap(k, 6) : 0;
                }
                due("of heap " + h, x.heap(h, 6), -sum);
            }
        }
    }

    // ---- III: cosets and marks

    @Holds(in = "Terms", words = "III. COSET c: the places that HEAPS H of CLASS c has in the GROUP: sets H times g;")
    void cosets() {
        MarkTables x = Dues.fourPlaces();
        for (int c = 0; c < 11; c++) {
            int places = Groups.cosetsOf(x, x.ofClass(c, 2)).size();
            due("coset " + c, x.coset(0, c), places);
            due("its size times that of the heap", (long) places * x.ofClass(c, 0), 24);
        }
    }

    @Holds(in = "Terms", words = "TURN t leads H g to H g t.")
    void turnsLeadCosets() {
        MarkTables x = Dues.fourPlaces();
        for (int c = 0; c < 11; c++) {
            x.coset(0, c);
            for (int t = 0; t < 24; t++) {
                int left = 0;
                for (long coset : Groups.cosetsOf(x, x.ofClass(c, 2))) {
                    left += Groups.times(x, coset, t) == coset ? 1 : 0;
                }
                due("turn " + t + " leaves of coset " + c, x.act(0, 3, t), left);
            }
        }
    }

    @Holds(in = "Terms", words = "MARK of CLASS j on an ACT: how many of its places a HEAP of CLASS j leaves"
        + " (each of its TURNS does).")
    void marks() {
        MarkTables x = Dues.fourPlaces();
        for (int c = 0; c < 11; c++) {
            x.coset(0, c);
            for (int j = 0; j < 11; j++) {
                long heap = Groups.membersOf(x, x.ofClass(j, 2));
                int left = 0;
                for (long coset : Groups.cosetsOf(x, x.ofClass(c, 2))) {
                    left += Groups.leaves(x, heap, coset) ? 1 : 0;
                }
                due("class " + j + " on coset " + c, x.mark(0, j), left);
                due("table(" + c + ", " + j + ")", x.table(c, j), left);
            }
        }
    }

    // ---- IV: acts

    @Holds(in = "Terms", words = "IV. ACTS 0 .. 7, missing at first")
    void actsAreMissingAtFirst() {
        MarkTables x = new MarkTables();
        for (int a = 0; a <= 7; a++) {
            due("parts(" + a + ", 0)", x.parts(a, 0), -1);
            due("mark(" + a + ", 0)", x.mark(a, 0), -1);
            due("act(" + a + ", 0, 0)", x.act(a, 0, 0), -1);
            refused("same(" + a + ", " + a + ")", x, x.same(a, a), -2);
        }
        for (int a = 0; a <= 7; a++) {
            due("acts", x.count(4), a);
            taken("coset(" + a + ", 0)", x, x.coset(a, 0), 1);
        }
        due("acts", x.count(4), 8);
        refused("coset(8, 0)", x, x.coset(8, 0), -1);
        refused("coset(-1, 0)", x, x.coset(-1, 0), -1);
    }

    @Holds(in = "Terms", words = "are told by PARTS: how many of each COSET they have, up to turning"
        + " (all places of an ACT are led to one another within a PART, and not beyond).")
    void actsAreToldByParts() {
        MarkTables x = Dues.fourPlaces();
        x.coset(0, 3);
        x.many(1, 0, 2);
        x.places(2, 2, 1);
        x.both(3, 1, 2, 0);
        x.heaps(4);
        for (int a = 0; a < 5; a++) {
            long parts = 0;
            long places = 0;
            for (int c = 0; c < 11; c++) {
                parts += x.parts(a, c);
                places += x.parts(a, c) * (24 / x.ofClass(c, 0));
            }
            due("parts of act " + a, x.act(a, 1, 0), parts);
            due("places of act " + a, x.act(a, 0, 0), places);
            due("sets of places of act " + a + " that all turns lead", x.act(a, 5, 29), parts);
        }
    }

    @Holds(in = "Terms", words = "Numbers of places, PARTS, MARKS are at most 10 to the 15:"
        + " what would have more is -5, and nothing is changed.")
    void actsThatWouldHaveMore() {
        MarkTables x = withPlaces(0, 1000000, 1000000, 1000);
        due("places", x.act(0, 0, 0), MOST);
        due("parts", x.act(0, 1, 0), MOST);
        due("parts", x.parts(0, 0), MOST);
        due("marks", x.mark(0, 0), MOST);
        putPlaces(x, 1);
        putPlaces(x, 2, 50);
        String before = Dues.view(x);
        refused("beside one", x, x.both(1, 0, 1, 0), -5);
        stays("both of way 0", x, before);
        refused("pairs", x, x.both(1, 0, 2, 1), -5);
        stays("both of way 1", x, before);
        refused("coloured", x, x.colour(1, 2, 2), -5);
        stays("colour", x, before);
        refused("many", x, x.many(1, 0, 2), -5);
        stays("many", x, before);
        refused("for a missing act", x, x.many(7, 0, 2), -5);
        due("it is missing still", x.act(7, 0, 0), -1);
        stays("many for a missing act", x, before);
    }
}
