import java.util.Arrays;

/** The sentences of promises 29 to 31: the row of numbers. */
final class RowTold extends Told {

    /** The answer of check(a) for a row of these numbers. */
    private static int checkOf(MarkTables x, int a, long... numbers) {
        Dues.fillRow(x, numbers);
        return x.check(a);
    }

    private static long[] sameNumbers(int length, long number) {
        long[] numbers = new long[length];
        Arrays.fill(numbers, number);
        return numbers;
    }

    // ---- promise 29: row

    @Holds(in = "Promise 29", words = "One more number of the ROW")
    void oneMore() {
        MarkTables x = Dues.threePlaces();
        x.row(6);
        due("count(5)", x.count(5), 1);
        Dues.fillRow(x, 0, 0, 0);
        due("they stand in order", x.check(0), 2);
        partsAre("(6, 0, 0, 0)", x, 0, 1, 0, 0, 0);
    }

    @Holds(in = "Promise 29", words = "(-10 to the 12 .. 10 to the 12)")
    void numbersOfTheRow() {
        MarkTables x = Dues.threePlaces();
        taken("10 to the 12", x, x.row(MOST_IN_ROW), 1);
        taken("less 10 to the 12", x, x.row(-MOST_IN_ROW), 2);
        taken("one below it", x, x.row(MOST_IN_ROW - 1), 3);
        taken("0", x, x.row(0), 4);
    }

    @Holds(in = "Promise 29", words = ": how many it has.")
    void howManyItHas() {
        MarkTables x = Dues.fourPlaces();
        for (int i = 1; i <= 11; i++) {
            taken("number " + i, x, x.row(-i), i);
        }
        x.check(0);
        taken("anew", x, x.row(1), 1);
        MarkTables most = Groups.mostHeaps();
        for (int i = 1; i <= 56; i++) {
            due("number " + i + " of 56", most.row(i), i);
        }
        due("number 57", most.row(0), -5);
    }

    @Holds(in = "Promise 29", words = "-1;")
    void numbersThatCannotBe() {
        MarkTables x = Dues.threePlaces();
        x.row(1);
        String before = Dues.view(x);
        long[] numbers = {MOST_IN_ROW + 1, -MOST_IN_ROW - 1, MOST, -MOST, Long.MAX_VALUE, Long.MIN_VALUE, 1L << 40, -1L << 40};
        for (long v : numbers) {
            refused("row(" + v + ")", x, x.row(v), -1);
        }
        stays("these", x, before);
        taken("row(2)", x, x.row(2), 2);
    }

    @Holds(in = "Promise 29", words = "-5: it has as many as there are CLASSES.")
    void rowIsFull() {
        MarkTables x = Dues.threePlaces();
        for (int i = 1; i <= 4; i++) {
            taken("number " + i, x, x.row(0), i);
        }
        for (int i = 0; i < 3; i++) {
            refused("number 5", x, x.row(6), -5);
        }
        refused("-1 is ahead of it", x, x.row(Long.MAX_VALUE), -1);
        due("it has four", x.count(5), 4);
        taken("the numbers are as they were", x, x.check(0), 2);
        due("all 0", x.act(0, 0, 0), 0);
        MarkTables one = new MarkTables();
        taken("one class", one, one.row(5), 1);
        refused("one class is full", one, one.row(5), -5);
    }

    // ---- promise 30: check

    @Holds(in = "Promise 30", words = "The ROW, which is empty then, as MARKS of CLASSES in order")
    void rowIsEmptyThen() {
        long[][] rows = {{5, 1, 2, 0}, {0, 2, 0, 0}, {0, 0, 1, 0}};
        int[] answers = {2, 1, 0};
        for (int i = 0; i < 3; i++) {
            MarkTables x = Dues.threePlaces();
            taken("check(0)", x, checkOf(x, 0, rows[i]), answers[i]);
            due("count(5)", x.count(5), 0);
            refused("an empty row", x, x.check(0), -1);
            taken("row(1)", x, x.row(1), 1);
        }
    }

    @Holds(in = "Promise 30", words = ": 2 an ACT has them")
    void marksOfAnAct() {
        MarkTables x = Dues.fourPlaces();
        for (int c = 0; c < 11; c++) {
            for (int j = 0; j < 11; j++) {
                x.row(x.table(c, j));
            }
            taken("coset " + c, x, x.check(-1), 2);
        }
        MarkTables three = Dues.threePlaces();
        taken("of no places", three, checkOf(three, -1, 0, 0, 0, 0), 2);
        taken("the greatest", three, checkOf(three, -1, MOST_IN_ROW, MOST_IN_ROW, MOST_IN_ROW, MOST_IN_ROW), 2);
        taken("the greatest of one part", three, checkOf(three, -1, MOST_IN_ROW - 4, 0, 0, 0), 2);
        MarkTables one = new MarkTables();
        taken("one class", one, checkOf(one, 0, MOST_IN_ROW), 2);
        MarkTables five = Dues.fivePlaces();
        taken("19 of the greatest", five, checkOf(five, 0, sameNumbers(19, MOST_IN_ROW)), 2);
        due("each place is a part", five.parts(0, 18), MOST_IN_ROW);
        long[] free = sameNumbers(19, 0);
        free[0] = 999999999960L;
        taken("120 places, as often as can be", five, checkOf(five, 1, free), 2);
        due("parts", five.parts(1, 0), 8333333333L);
    }

    @Holds(in = "Promise 30", words = "(and ACT a is that one, if there is such an a)")
    void actIsThatOne() {
        MarkTables x = Dues.threePlaces();
        x.coset(0, 0);
        taken("check(0)", x, checkOf(x, 0, 5, 1, 2, 0), 2);
        partsAre("in the place of another", x, 0, 0, 1, 1, 0);
        marksAre("in the place of another", x, 0, 5, 1, 2, 0);
        taken("check(7)", x, checkOf(x, 7, 0, 0, 0, 0), 2);
        due("it is there", x.count(4), 2);
        due("without places", x.act(7, 0, 0), 0);
        String before = Dues.view(x);
        for (int a : new int[] {-1, 8, LOW, HIGH}) {
            taken("check(" + a + ")", x, checkOf(x, a, 3, 1, 0, 0), 2);
            stays("check(" + a + ")", x, before);
        }
        taken("check(1) that gives 1", x, checkOf(x, 0, 0, 2, 0, 0), 1);
        taken("check(1) that gives 0", x, checkOf(x, 1, 0, 0, 1, 0), 0);
        due("makes no act", x.count(4), 2);
        due("and changes none", x.act(0, 0, 0), 5);
        MarkTables great = new MarkTables();
        checkOf(great, 3, MOST_IN_ROW);
        due("the greatest", great.parts(3, 0), MOST_IN_ROW);
    }

    @Holds(in = "Promise 30", words = ", 1 they are the MARKS of one ACT less those of another one")
    void marksOfOneLessAnother() {
        MarkTables x = Dues.threePlaces();
        taken("less one place", x, checkOf(x, 0, -1, -1, -1, -1), 1);
        taken("less a six", x, checkOf(x, 0, -6, 0, 0, 0), 1);
        taken("two threes less a six", x, checkOf(x, 0, 0, 2, 0, 0), 1);
        taken("a two less two ones", x, checkOf(x, 0, 0, -2, 0, -2), 1);
        taken("less very many", x, checkOf(x, 0, -MOST_IN_ROW, -MOST_IN_ROW, -MOST_IN_ROW, -MOST_IN_ROW), 1);
        due("acts", x.count(4), 0);
        MarkTables one = new MarkTables();
        taken("one class", one, checkOf(one, 0, -1), 1);
        taken("one class", one, checkOf(one, 0, -MOST_IN_ROW), 1);
        MarkTables five = Dues.fivePlaces();
        long[] ones = sameNumbers(19, 0);
        ones[18] = 120000000000L;
        taken("very many ones less all that moves", five, checkOf(five, 0, ones), 1);
        due("misfit()", five.misfit(), 17);
    }

    @Holds(in = "Promise 30", words = ", 0 neither.")
    void neither() {
        MarkTables x = Dues.threePlaces();
        taken("one place that moves", x, checkOf(x, 0, 1, 0, 0, 0), 0);
        taken("odd for a two", x, checkOf(x, 0, 0, 0, 1, 0), 0);
        taken("below 0", x, checkOf(x, 0, -1, 0, 0, 0), 0);
        taken("five of six", x, checkOf(x, 0, -5, 0, 0, 0), 0);
        taken("the greatest", x, checkOf(x, 0, MOST_IN_ROW, 0, 0, 0), 0);
        due("acts", x.count(4), 0);
    }

    @Holds(in = "Promise 30", words = "-1 it has not as many numbers as there are CLASSES (it stays).")
    void rowHasTooFew() {
        MarkTables x = Dues.threePlaces();
        long[] numbers = {5, 1, 2, 0};
        for (int i = 0; i < 4; i++) {
            for (int a : new int[] {0, -1, 8}) {
                refused("check(" + a + ") of " + i + " numbers", x, x.check(a), -1);
            }
            due("it stays", x.count(5), i);
            x.row(numbers[i]);
        }
        taken("four numbers", x, x.check(0), 2);
        partsAre("they stayed", x, 0, 0, 1, 1, 0);
    }

    @Holds(in = "Promise 30", words = "as MARKS of CLASSES in order")
    void rowBehindAGreaterGroup() {
        MarkTables x = Dues.groupOf(4, Dues.order(1, 0), Dues.order(0, 1, 3, 2));
        taken("five classes", x, checkOf(x, 0, -1, -1, -1, -1, -1), 1);
        due("the last one", x.misfit(), 4);
        Groups.lay(x, new int[][] {{1, 2, 0}, {1, 0}});
        x.group(3);
        taken("four classes", x, checkOf(x, 0, 5, 1, 2, 0), 2);
        due("none", x.misfit(), -1);
        partsAre("a three and a two", x, 0, 0, 1, 1, 0);
    }

    // ---- promise 31: misfit

    @Holds(in = "Promise 31", words = "Behind a check() that gave 0 the greatest CLASS"
        + " whose number doesn't fit those of greater CLASSES")
    void misfitOfNeither() {
        MarkTables x = Dues.threePlaces();
        due("check", checkOf(x, 0, 1, 0, 0, 0), 0);
        due("class 0", x.misfit(), 0);
        due("check", checkOf(x, 0, 0, 1, 0, 0), 0);
        due("class 1 fits, 0 doesn't", x.misfit(), 0);
        due("check", checkOf(x, 0, 1, 0, 1, 0), 0);
        due("classes 2 and 0, of which 2 is the greatest", x.misfit(), 2);
        due("check", checkOf(x, 0, 0, -1, -2, 0), 0);
        due("one with fewer than none, too", x.misfit(), 0);
        due("asked again", x.misfit(), 0);
        MarkTables five = Dues.fivePlaces();
        int own = five.table(17, 17);
        due("the even ones go twice", own, 2);
        for (int c = 0; c < 19; c++) {
            five.row(c == 17 ? 1 : 0);
        }
        due("check", five.check(0), 0);
        due("the last that can fail to fit", five.misfit(), 17);
    }

    @Holds(in = "Promise 31", words = "; of one that gave 1 the greatest CLASS of which there would be fewer than none")
    void misfitOfOneLessAnother() {
        MarkTables x = Dues.threePlaces();
        due("check", checkOf(x, 0, 0, 2, 0, 0), 1);
        due("two threes less a six", x.misfit(), 0);
        due("check", checkOf(x, 0, 1, -1, -2, 0), 1);
        due("less a three and a two", x.misfit(), 2);
        due("check", checkOf(x, 0, -3, -1, 0, 0), 1);
        due("less a three", x.misfit(), 1);
        due("check", checkOf(x, 0, -1, -1, -1, -1), 1);
        due("less one place", x.misfit(), 3);
        due("asked again", x.misfit(), 3);
    }

    @Holds(in = "Promise 31", words = "; else NONE.")
    void misfitOfOthers() {
        MarkTables x = Dues.threePlaces();
        due("ahead of any check()", x.misfit(), -1);
        refused("a check() that is refused", x, x.check(0), -1);
        due("behind it alone", x.misfit(), -1);
        due("check", checkOf(x, 0, 0, 0, 1, 0), 0);
        due("check", checkOf(x, 0, 5, 1, 2, 0), 2);
        due("behind one that gave 2", x.misfit(), -1);
        due("check", checkOf(x, 0, 0, 2, 0, 0), 1);
        due("check", checkOf(x, 8, 0, 0, 0, 0), 2);
        due("behind one that gave 2 and kept no act", x.misfit(), -1);
    }

    /** No sentence says that other calls change it, and a check() that is refused is taken as if it were not made. */
    @Holds(in = "Promise 31", words = "Behind a check() that gave 0")
    void misfitBehindOtherCalls() {
        MarkTables x = Dues.threePlaces();
        due("check", checkOf(x, 0, 0, 0, 1, 0), 0);
        due("behind check()", x.misfit(), 2);
        x.row(1);
        due("behind row()", x.misfit(), 2);
        x.coset(0, 0);
        due("behind coset()", x.misfit(), 2);
        refused("check(0)", x, x.check(0), -1);
        due("behind a check() that was refused", x.misfit(), 2);
        x.image(0);
        x.group(3);
        due("behind group()", x.misfit(), 2);
        x.back(0);
        due("behind back()", x.misfit(), 2);
    }
}
