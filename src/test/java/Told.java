/** What the tests of sentences share. Each of their methods that Holds a sentence is a test of its own. */
abstract class Told {
    static final int LOW = Integer.MIN_VALUE;
    static final int HIGH = Integer.MAX_VALUE;
    static final int NO_HEAP = -1000000;
    static final long MOST = 1000000000000000L;
    static final long MOST_IN_ROW = 1000000000000L;

    private Dues dues;
    private String sentence;

    final void begin(Dues allDues, String ofSentence) {
        dues = allDues;
        sentence = ofSentence;
    }

    final void due(String what, long got, long want) {
        dues.due(sentence + " " + what, got, want);
    }

    final void isTrue(String what, boolean got) {
        dues.isTrue(sentence + " " + what, got);
    }

    /** A call that is refused: its answer, and the status behind it. */
    final void refused(String what, MarkTables x, long got, int code) {
        due(what, got, code);
        due("status behind " + what, x.status(), code);
    }

    /** A call that is not refused: its answer, and the status behind it. */
    final void taken(String what, MarkTables x, long got, long want) {
        due(what, got, want);
        due("status behind " + what, x.status(), 0);
    }

    /** Group, acts, row and misfit are what they were. */
    final void stays(String behind, MarkTables x, String before) {
        isTrue("all stays behind " + behind, before.equals(Dues.view(x)));
    }

    final void partsAre(String what, MarkTables x, int a, long... parts) {
        for (int c = 0; c < parts.length; c++) {
            due(what + ": parts(" + a + ", " + c + ")", x.parts(a, c), parts[c]);
        }
        due(what + ": there are no more", x.parts(a, parts.length), -1);
    }

    final void marksAre(String what, MarkTables x, int a, long... marks) {
        for (int c = 0; c < marks.length; c++) {
            due(what + ": mark(" + a + ", " + c + ")", x.mark(a, c), marks[c]);
        }
        due(what + ": there are no more", x.mark(a, marks.length), -1);
    }

    /** One place, and act a has as many as the product of the times. */
    static MarkTables withPlaces(int a, int... times) {
        MarkTables x = new MarkTables();
        putPlaces(x, a, times);
        return x;
    }

    /** Act a becomes what all turns leave, as often as the product of the times. */
    static void putPlaces(MarkTables x, int a, int... times) {
        x.coset(a, x.count(3) - 1);
        for (int k : times) {
            x.many(a, a, k);
        }
    }
}
