import java.util.Arrays;

/** What the tests share: counting wrong answers, and laying sheets. */
final class Dues {
    private final String name;
    private int asked = 0;
    private int wrong = 0;

    Dues(String name) {
        this.name = name;
    }

    void due(String what, long got, long want) {
        asked++;
        if (got != want) {
            wrong++;
            if (wrong <= 40) {
                System.out.println(name + ": " + what + " answered " + got + ", due is " + want);
            }
        }
    }

    void isTrue(String what, boolean got) {
        due(what, got ? 1 : 0, 1);
    }

    int asked() {
        return asked;
    }

    /** Ends the test: exit code 1 if an answer was wrong. */
    void end() {
        System.out.println(name + ": " + asked + " answers, " + wrong + " wrong");
        if (wrong != 0 || asked == 0) {
            System.exit(1);
        }
    }

    static void lay(MarkTables x, int s, int... numbers) {
        x.sheet(s, 2, numbers.length);
        for (int i = 0; i < numbers.length; i++) {
            x.write(s, i, numbers[i]);
        }
    }

    /** An object with the group of n places that the orders make. */
    static MarkTables groupOf(int n, int[]... orders) {
        MarkTables x = new MarkTables();
        for (int s = 0; s < orders.length; s++) {
            lay(x, s, orders[s]);
        }
        x.group(n);
        return x;
    }

    static int[] order(int... numbers) {
        return numbers;
    }

    static MarkTables threePlaces() {
        return groupOf(3, order(1, 2, 0), order(1, 0));
    }

    static MarkTables fourPlaces() {
        return groupOf(4, order(1, 2, 3, 0), order(1, 0));
    }

    static MarkTables fivePlaces() {
        return groupOf(5, order(1, 2, 3, 4, 0), order(1, 0));
    }

    static MarkTables evenFive() {
        return groupOf(5, order(1, 2, 3, 4, 0), order(1, 2, 0));
    }

    static void fillRow(MarkTables x, long... numbers) {
        for (long v : numbers) {
            x.row(v);
        }
    }

    /** All that can be asked without a change, but for status(), as one text. */
    static String view(MarkTables x) {
        StringBuilder text = new StringBuilder();
        long[] counts = new long[6];
        for (int i = 0; i < 6; i++) {
            counts[i] = x.count(i);
        }
        text.append(Arrays.toString(counts)).append(x.misfit()).append(';').append(x.rank());
        for (int t = 0; t < counts[1]; t++) {
            for (int p = 0; p < counts[0]; p++) {
                text.append(x.turn(t, p));
            }
            text.append(',').append(x.ofTurn(t, 2)).append(' ');
        }
        for (int h = 0; h < counts[2]; h++) {
            text.append(x.heap(h, 1)).append('/').append(x.heap(h, 6)).append(' ');
        }
        for (int a = 0; a < 8; a++) {
            for (int c = 0; c < counts[3]; c++) {
                text.append(x.parts(a, c)).append(':').append(x.mark(a, c)).append(' ');
            }
        }
        return text.toString();
    }
}
