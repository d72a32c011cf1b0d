/** The sentences of promise 36, and of how long an object is used. */
final class StatusTold extends Told {

    @Holds(in = "Promise 36", words = "What the latest call of those that can be REFUSED (with a code above) was REFUSED by;")
    void theLatestRefusal() {
        MarkTables x = Dues.threePlaces();
        x.coset(0, 0);
        refused("sheet, -1", x, x.sheet(9, 0, 0), -1);
        refused("sheet, -4", x, x.sheet(3, 0, -1), -4);
        refused("write, -1", x, x.write(9, 0, 0), -1);
        refused("write, -2", x, x.write(3, 0, 0), -2);
        refused("write, -3", x, x.write(0, 9, 0), -3);
        refused("group, -1", x, x.group(9), -1);
        refused("coset, -2", x, x.coset(0, 9), -2);
        refused("coset, -1", x, x.coset(9, 0), -1);
        refused("same, -2", x, x.same(0, 7), -2);
        refused("places, -1", x, x.places(9, 0, 0), -1);
        refused("both, -2", x, x.both(0, 0, 7, 0), -2);
        refused("heaps, -1", x, x.heaps(9), -1);
        refused("colour, -2", x, x.colour(0, 7, 0), -2);
        x.many(1, 0, 1000000);
        refused("colour, -5", x, x.colour(0, 1, 2), -5);
        refused("many, -1", x, x.many(0, 0, -1), -1);
        x.both(1, 1, 1, 1);
        refused("both, -5", x, x.both(1, 1, 1, 1), -5);
        refused("check, -1", x, x.check(0), -1);
        refused("many, -2", x, x.many(0, 7, 0), -2);
        refused("many, -5", x, x.many(0, 1, 1000000), -5);
        refused("image, -1", x, x.image(9), -1);
        refused("back, -2", x, x.back(0), -2);
        refused("row, -1", x, x.row(Long.MIN_VALUE), -1);
        Dues.fillRow(x, 0, 0, 0, 0);
        refused("row, -5", x, x.row(0), -5);
        Groups.lay(x, Groups.MORE_TURNS);
        refused("group, -5", x, x.group(8), -5);
        x.write(2, 0, 0);
        refused("group, -6", x, x.group(8), -6);
        due("asked again", x.status(), -6);
    }

    /** Refuses a call, so that the next one has something to change. */
    private static void refuse(MarkTables x) {
        x.write(0, 99, 0);
    }

    @Holds(in = "Promise 36", words = "0 if it was not")
    void notRefused() {
        MarkTables x = Dues.threePlaces();
        refuse(x);
        due("it was refused", x.status(), -3);
        taken("sheet", x, x.sheet(3, 0, 1), 1);
        refuse(x);
        taken("write", x, x.write(3, 0, 0), 0);
        refuse(x);
        taken("group", x, x.group(3), 6);
        refuse(x);
        taken("coset", x, x.coset(0, 1), 3);
        refuse(x);
        taken("places", x, x.places(1, 1, 0), 3);
        refuse(x);
        taken("heaps", x, x.heaps(2), 6);
        refuse(x);
        taken("both", x, x.both(3, 0, 1, 0), 6);
        refuse(x);
        taken("both", x, x.both(3, 0, 1, 1), 9);
        refuse(x);
        taken("colour", x, x.colour(3, 0, 0), 0);
        refuse(x);
        taken("many", x, x.many(3, 0, 0), 0);
        refuse(x);
        taken("same, which answers NONE", x, x.same(0, 1), -1);
        refuse(x);
        taken("same, which answers a class", x, x.same(0, 2), 0);
        for (int i = 1; i <= 4; i++) {
            refuse(x);
            taken("row", x, x.row(i == 1 ? 1 : 0), i);
        }
        refuse(x);
        taken("check, which answers 0", x, x.check(0), 0);
        Dues.fillRow(x, -1, -1, -1, -1);
        refuse(x);
        taken("check, which answers 1", x, x.check(0), 1);
        Dues.fillRow(x, 1, 1, 1, 1);
        refuse(x);
        taken("check, which answers 2", x, x.check(0), 2);
        refuse(x);
        taken("image", x, x.image(0), 0);
        refuse(x);
        taken("back", x, x.back(0), 0);
    }

    @Holds(in = "Promise 36", words = ", or ahead of any.")
    void aheadOfAny() {
        MarkTables x = new MarkTables();
        due("a new object", x.status(), 0);
        askAll(x, 0);
        due("behind calls that only ask", x.status(), 0);
    }

    @Holds(in = "Promise 36", words = "(maps and chance only ask: they leave it.)")
    void mapsAndChanceLeaveIt() {
        MarkTables x = withPlaces(0, 1000000);
        for (int want : new int[] {0, -3}) {
            if (want != 0) {
                x.sheet(0, 0, 1);
                refuse(x);
            }
            due("maps above the most", x.maps(0, 0, 0), -5);
            due("status", x.status(), want);
            due("maps of a missing act", x.maps(0, 7, 0), -1);
            due("status", x.status(), want);
            due("maps of no way", x.maps(0, 0, 2), -1);
            due("status", x.status(), want);
            due("chance that can't be", x.chance(7, 0), -1);
            due("status", x.status(), want);
            due("chance", x.chance(6, 0), 1);
            due("status", x.status(), want);
            putPlaces(x, 1);
        }
    }

    @Holds(in = "Promise 36", words = "those that can be REFUSED (with a code above)")
    void othersLeaveIt() {
        MarkTables x = Dues.threePlaces();
        x.coset(0, 0);
        for (int a : new int[] {0, 9, -1}) {
            x.coset(0, 0);
            askAll(x, a);
            due("behind calls that ask, with " + a, x.status(), 0);
            x.sheet(3, 0, -1);
            askAll(x, a);
            due("behind calls that ask, with " + a, x.status(), -4);
        }
    }

    /** All calls that only ask. */
    private static void askAll(MarkTables x, int a) {
        x.count(a);
        x.turn(a, a);
        x.product(a, a);
        x.ofTurn(a, a);
        x.heap(a, a);
        x.has(a, a);
        x.join(a, a, a);
        x.ofClass(a, a);
        x.within(a, a, a);
        x.table(a, a);
        x.sylow(a);
        x.down(a);
        x.simple();
        x.parts(a, a);
        x.mark(a, a);
        x.act(a, a, a);
        x.maps(a, a, a);
        x.misfit();
        x.chance(a, a);
        x.rank();
        x.status();
    }

    @Holds(in = "What it is", words = "An object is used for at most 512 calls after it has been made")
    void theLastCalls() {
        MarkTables x = new MarkTables();
        int calls = 0;
        int[] orders = {1, 2, 3, 4, 0};
        while (calls + 20 < 512) {
            x.sheet(0, 0, 5);
            for (int i = 0; i < 5; i++) {
                x.write(0, i, orders[i]);
            }
            x.sheet(1, 0, 2);
            x.write(1, 0, 1);
            due("a group at call " + calls, x.group(5), 120);
            x.image(calls % 3);
            due("heaps at call " + calls, x.heaps(0), 156);
            calls += 11;
        }
        while (calls < 511) {
            due("a group at call " + calls, x.group(5), 120);
            calls++;
        }
        due("call 512", x.chance(2, 1), 40);
    }
}
