import java.math.BigInteger;

/** The sentences of promises 32 and 33: turns drawn at random. */
final class ChanceTold extends Told {

    // ---- promise 32: chance

    @Holds(in = "Promise 32", words = "The chance that k TURNS (0 .. 6), each drawn alike from all, make the whole GROUP")
    void draws() {
        MarkTables x = Dues.threePlaces();
        for (int k = 0; k <= 6; k++) {
            int rows = 1;
            for (int i = 0; i < k; i++) {
                rows *= 6;
            }
            long make = 0;
            for (int row = 0; row < rows; row++) {
                int heap = 0;
                for (int i = 0, rest = row; i < k; i++, rest /= 6) {
                    heap = x.join(heap, x.ofTurn(rest % 6, 2), 1);
                }
                make += heap == 5 ? 1 : 0;
            }
            due(k + " turns", x.chance(k, 0) * rows, make * x.chance(k, 1));
        }
        MarkTables one = new MarkTables();
        MarkTables two = Dues.groupOf(2, Dues.order(1, 0));
        for (int k = 0; k <= 6; k++) {
            due("one turn makes itself", one.chance(k, 0), 1);
            due("one turn makes itself", one.chance(k, 1), 1);
            due("two turns, upper", two.chance(k, 0), (1 << k) - 1);
            due("two turns, lower", two.chance(k, 1), 1 << k);
        }
    }

    @Holds(in = "Promise 32", words = ", as a fraction in lowest terms")
    void lowestTerms() {
        MarkTables x = Dues.fivePlaces();
        due("two turns, upper", x.chance(2, 0), 19);
        due("two turns, lower", x.chance(2, 1), 40);
        due("no chance, upper", x.chance(1, 0), 0);
        due("no chance, lower", x.chance(1, 1), 1);
        due("no turns, upper", x.chance(0, 0), 0);
        due("no turns, lower", x.chance(0, 1), 1);
        MarkTables even = Dues.evenFive();
        due("even ones, upper", even.chance(2, 0), 19);
        due("even ones, lower", even.chance(2, 1), 30);
        due("three even ones, upper", even.chance(3, 0), 139);
        due("three even ones, lower", even.chance(3, 1), 150);
        for (int k = 0; k <= 6; k++) {
            BigInteger upper = BigInteger.valueOf(x.chance(k, 0));
            due("shared by " + k + " turns", upper.gcd(BigInteger.valueOf(x.chance(k, 1))).longValue(), 1);
        }
    }

    @Holds(in = "Promise 32", words = ": its upper (what 0), lower (1) number.")
    void upperAndLower() {
        MarkTables x = Dues.threePlaces();
        long[] upper = {0, 0, 1, 7, 65};
        long[] lower = {1, 1, 2, 9, 72};
        for (int k = 0; k < 5; k++) {
            due("chance(" + k + ", 0)", x.chance(k, 0), upper[k]);
            due("chance(" + k + ", 1)", x.chance(k, 1), lower[k]);
        }
    }

    @Holds(in = "Promise 32", words = "-1.")
    void noChance() {
        MarkTables x = Dues.threePlaces();
        for (int k : new int[] {-1, 7, 8, LOW, HIGH}) {
            due("chance(" + k + ", 0)", x.chance(k, 0), -1);
            due("chance(" + k + ", 1)", x.chance(k, 1), -1);
        }
        for (int what : new int[] {-1, 2, LOW, HIGH}) {
            due("chance(0, " + what + ")", x.chance(0, what), -1);
            due("chance(6, " + what + ")", x.chance(6, what), -1);
        }
        isTrue("chance(6, 0)", x.chance(6, 0) > 0);
    }

    // ---- promise 33: rank

    @Holds(in = "Promise 33", words = "The fewest TURNS that can make the GROUP.")
    void fewestTurns() {
        due("one turn needs none", new MarkTables().rank(), 0);
        MarkTables none = new MarkTables();
        none.group(8);
        due("one turn of eight places needs none", none.rank(), 0);
        due("three in a round", Dues.groupOf(3, Dues.order(1, 2, 0)).rank(), 1);
        due("two rounds told by two sheets",
            Dues.groupOf(5, Dues.order(1, 2, 0), Dues.order(0, 1, 2, 4, 3)).rank(), 1);
        due("three places", Dues.threePlaces().rank(), 2);
        due("five places", Dues.fivePlaces().rank(), 2);
        due("quaternions", Groups.quaternions().rank(), 2);
        int[][] pairs = Groups.FOUR_PAIRS;
        due("two pairs", Dues.groupOf(8, pairs[0], pairs[1]).rank(), 2);
        due("three pairs", Dues.groupOf(8, pairs[0], pairs[1], pairs[2]).rank(), 3);
        due("four pairs", Dues.groupOf(8, pairs).rank(), 4);
    }
}
