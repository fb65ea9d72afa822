import java.util.Arrays;

/**
 * The sentences that name a boundary case in "Rows" and "Transforms", and in promises 25 to 32: an empty row and a full
 * one, the least part, a group of ten and of eleven, the first and last prime and root, powers that come round.
 */
public final class BoundaryRowsTest extends Answers {
    private static final int[] NO_SETS = {LOWEST, -1, 3, 4, 29, 30, 31, HIGHEST};
    /** By 7 the powers of 3 are 1, 3, 2, 6, 4, 5 and 1 again. */
    private static final Recipe SEVEN = () -> rooted(6, 7, 3, first(6), bits(5), bits(1, 3));

    public static void main(String[] args) {
        putTwelve();
        putLastElement();
        wipes();
        zeroNone();
        zeroLeast();
        zeroComesRound();
        zeroFullRow();
        constantTen();
        constantLeast();
        rootPrime();
        rootNoPrime();
        rootRange();
        rootLeastPower();
        rootOfMoreX();
        rootAgain();
        transformRange();
        transformComesRound();
        transformNoRoot();
        waysAnewLeastAndMost();
        waysAnewNoRoot();
        ofRange();
        REPORT.end("BoundaryRowsTest");
    }

    private static Recipe row(int m, int n, int... row) {
        return () -> rowOf(m, n, row);
    }

    private static int[] often(int many, int element) {
        int[] row = new int[many];
        Arrays.fill(row, element);
        return row;
    }

    /** "The row has at most 12 elements of the group, the same one perhaps several times." */
    private static void putTwelve() {
        for (int had = 0; had < 12; had++) {
            answered("25 put behind " + had, had + 1, row(1, 5, often(had, 3)), house -> house.put(3));
        }
        Recipe full = row(1, 5, often(12, 3));
        refused("25 the 13th", STATE, full, house -> house.put(3));
        refused("25 the 13th, another one", STATE, full, house -> house.put(0));
        refused("25 the 13th, no element", INDEX, full, house -> house.put(5));
        refused("25 the 13th, below 0", INDEX, full, house -> house.put(-1));
        Sumsetry house = full.made();
        house.wipe();
        for (int count = 1; count <= 12; count++) {
            int want = count;
            due("25 wiped: put, then " + count, want, () -> house.put(want % 5));
        }
        due("25 wiped: the 13th", STATE, () -> house.put(1));
    }

    /** "IndexOutOfBoundsException if there is no such element". */
    private static void putLastElement() {
        for (int size : new int[] {1, 2, 12, 31, 32, 35, 36}) {
            answered("25 of " + size + ": the last element", 1, row(1, size), house -> house.put(size - 1));
            answered("25 of " + size + ": the first element", 1, row(size, 1), house -> house.put(0));
            for (int wrong : new int[] {LOWEST, -1, size, 36, 37, HIGHEST}) {
                refused("25 of " + size + ": put(" + wrong + ")", INDEX, row(1, size, 0), h -> h.put(wrong));
            }
        }
    }

    /** "Empties the row; returns how many it had." */
    private static void wipes() {
        for (int had = 0; had <= 12; had++) {
            answered("26 wipe of " + had, had, row(1, 5, often(had, 0)), Sumsetry::wipe);
            Sumsetry house = row(1, 5, often(had, 0)).made();
            house.wipe();
            due("26 behind a wipe of " + had, State.of(house(1, 5)), () -> State.of(house));
        }
        answered("26 wiped twice", 0, row(1, 5, 1, 2), house -> {
            house.wipe();
            return house.wipe();
        });
        Sumsetry house = SEVEN.made();
        house.put(5);
        house.wipe();
        due("26 sets and the root stay", State.of(SEVEN.made()), () -> State.of(house));
    }

    /** "0 if there is none". */
    private static void zeroNone() {
        answered("27 of an empty row", 0, row(1, 5), Sumsetry::zero);
        answered("27 of one element", 0, row(1, 5, 1), Sumsetry::zero);
        answered("27 of four ones of 5", 0, row(1, 5, 1, 1, 1, 1), Sumsetry::zero);
        answered("27 of eleven ones of 12", 0, row(1, 12, often(11, 1)), Sumsetry::zero);
        answered("27 of twelve ones of 13", 0, row(1, 13, often(12, 1)), Sumsetry::zero);
        answered("27 of twelve ones of 36", 0, row(36, 1, often(12, 1)), Sumsetry::zero);
        answered("27 of 1 and 2 of 2 and 2", 0, row(2, 2, 1, 2), Sumsetry::zero);
    }

    /** "the fewest places, of several the lowest as a number", "some of its places, one at least". */
    private static void zeroLeast() {
        answered("27 one place", 1, row(1, 5, 0), Sumsetry::zero);
        answered("27 one place behind", 2, row(1, 5, 1, 0), Sumsetry::zero);
        answered("27 of two single places the lower one", 1, row(1, 5, 0, 0), Sumsetry::zero);
        answered("27 one place ahead of two lower ones", 4, row(1, 5, 2, 3, 0), Sumsetry::zero);
        answered("27 two places", 3, row(1, 5, 1, 4), Sumsetry::zero);
        answered("27 two places, not neighbours", 5, row(1, 5, 1, 1, 4), Sumsetry::zero);
        answered("27 of four pairs the lowest", 3, row(1, 5, 1, 4, 4, 1), Sumsetry::zero);
        answered("27 of four pairs the lowest, apart", 5, row(1, 5, 4, 4, 1, 1), Sumsetry::zero);
        answered("27 two places ahead of three lower ones", 12, row(1, 7, 1, 2, 4, 3), Sumsetry::zero);
        answered("27 of the least group", 1, row(1, 1, often(12, 0)), Sumsetry::zero);
        answered("27 an element with itself", 3, row(1, 12, 6, 6), Sumsetry::zero);
        answered("27 a place is taken once", 0, row(1, 12, 6), Sumsetry::zero);
    }

    /** "if their elements, added up, are the element 0": by x and by y. */
    private static void zeroComesRound() {
        answered("27 of 3 and 4: by x", 3, row(3, 4, 4, 8), Sumsetry::zero);
        answered("27 of 3 and 4: by y", 3, row(3, 4, 3, 1), Sumsetry::zero);
        answered("27 of 3 and 4: by both", 3, row(3, 4, 11, 5), Sumsetry::zero);
        answered("27 of 3 and 4: y alone is none", 0, row(3, 4, 11, 1), Sumsetry::zero);
        answered("27 of 3 and 4: x alone is none", 0, row(3, 4, 11, 4), Sumsetry::zero);
        answered("27 of 3 and 4: 11 and 1, then 4", 7, row(3, 4, 11, 1, 4), Sumsetry::zero);
        answered("27 of 2 and 2: all three", 7, row(2, 2, 1, 2, 3), Sumsetry::zero);
        answered("27 of 2 and 2: the last two", 12, row(2, 2, 1, 2, 3, 3), Sumsetry::zero);
        answered("27 of 36: the last and 1", 3, row(1, 36, 35, 1), Sumsetry::zero);
    }

    /** Parts that need the last place, and all places. */
    private static void zeroFullRow() {
        answered("27 of five ones of 5 all", 31, row(1, 5, often(5, 1)), Sumsetry::zero);
        answered("27 of six ones of 5 the first five", 31, row(1, 5, often(6, 1)), Sumsetry::zero);
        answered("27 of twelve ones of 12 all", 4095, row(1, 12, often(12, 1)), Sumsetry::zero);
        answered("27 of twelve threes of 36 all", 4095, row(1, 36, often(12, 3)), Sumsetry::zero);
        int[] last = often(12, 1);
        last[11] = 0;
        answered("27 the last place alone", 1 << 11, row(1, 36, last), Sumsetry::zero);
        last[11] = 35;
        answered("27 the first and the last place", 1 << 11 | 1, row(1, 36, last), Sumsetry::zero);
        last[10] = 18;
        last[11] = 18;
        answered("27 the last two places", 1 << 11 | 1 << 10, row(1, 36, last), Sumsetry::zero);
        answered("27 asked twice", 3, row(1, 5, 1, 4), house -> {
            house.zero();
            return house.zero();
        });
    }

    /** "IllegalStateException if it has more than 10 elements". */
    private static void constantTen() {
        for (int[] group : new int[][] {{1, 10}, {10, 1}, {2, 5}, {5, 2}}) {
            answered("28 of " + group[0] + " and " + group[1], 10, () -> house(group[0], group[1]),
                    Sumsetry::constant);
        }
        for (int[] group : new int[][] {{1, 11}, {11, 1}, {1, 12}, {12, 1}, {3, 4}, {4, 3}, {2, 6}, {6, 2}, {1, 36},
            {36, 1}, {6, 6}}) {
            refused("28 of " + group[0] + " and " + group[1], STATE, () -> house(group[0], group[1], 1),
                    Sumsetry::constant);
        }
    }

    /** "the least number such that each row of so many elements has a zero part". */
    private static void constantLeast() {
        for (int size = 1; size <= 10; size++) {
            int of = size;
            answered("28 of 1 and " + size, size, () -> house(1, of), Sumsetry::constant);
            answered("28 of " + size + " and 1", size, () -> house(of, 1), Sumsetry::constant);
            answered("28 one fewer has none: " + size, 0, row(1, size, often(size - 1, 1)), Sumsetry::zero);
        }
        constantDue(2, 2, 3, 1, 2);
        constantDue(2, 4, 5, 4, 1, 1, 1);
        constantDue(4, 2, 5, 1, 2, 2, 2);
        constantDue(3, 3, 5, 1, 1, 3, 3);
        constantDue(2, 3, 6, often(5, 4));
        constantDue(3, 2, 6, often(5, 3));
    }

    /** The constant, with a row of one element fewer that has no zero part; any element more makes one. */
    private static void constantDue(int m, int n, int want, int... row) {
        String of = "28 of " + m + " and " + n;
        answered(of, want, () -> house(m, n), Sumsetry::constant);
        due(of + ", one fewer", want - 1, () -> row.length);
        answered(of + ", one fewer has none", 0, row(m, n, row), Sumsetry::zero);
        for (int element = 0; element < m * n; element++) {
            int more = element;
            answered(of + ", then " + element, true, row(m, n, row), house -> {
                house.put(more);
                return house.zero() != 0;
            });
        }
    }

    /** The last element at the last k makes w itself, since n less 1 times n less 1 comes round to 1. */
    private static void taken(int n, int p, int w) {
        String call = "29 of 1 and " + n + ": root(" + p + ", " + w + ")";
        Sumsetry house = house(1, n, 1L << n - 1);
        rootDue(call, "nothing", house, p, w);
        due(call + ", the prime", p, () -> house.of(4));
        due(call + ", the root", w, () -> house.transform(0, n - 1));
    }

    private static void notTaken(int n, int p, int w) {
        refused("29 of 1 and " + n + ": root(" + p + ", " + w + ")", ARGUMENT, () -> house(1, n, 1),
                house -> rootTold(house, p, w));
    }

    /** "p: 2 to 9999": the first prime and the last, and what is beyond both. */
    private static void rootPrime() {
        taken(1, 2, 1);
        taken(1, 3, 1);
        taken(2, 3, 2);
        taken(1, 9967, 1);
        taken(1, 9973, 1);
        taken(2, 9973, 9972);
        notTaken(1, 1, 1);
        notTaken(1, 1, 0);
        notTaken(1, 0, 1);
        notTaken(1, 0, 0);
        notTaken(1, -1, 1);
        notTaken(1, -2, 1);
        notTaken(1, -7, 1);
        notTaken(1, 10000, 1);
        notTaken(1, 10001, 1);
        notTaken(1, 10007, 1);
        notTaken(2, 10007, 10006);
        notTaken(1, LOWEST, 1);
        notTaken(1, HIGHEST, 1);
        notTaken(2, HIGHEST, HIGHEST - 1);
    }

    /** "p is no prime": w less one than p, which twice is 1, is refused of each p that is none. */
    private static void rootNoPrime() {
        int[] none = {4, 6, 8, 9, 10, 15, 25, 35, 49, 121, 169, 341, 561, 1105, 2047, 9025, 9409, 9797, 9801, 9991,
            9998, 9999};
        for (int p : none) {
            notTaken(2, p, p - 1);
            notTaken(1, p, 1);
        }
        notTaken(6, 9, 2);
        notTaken(4, 10, 3);
        notTaken(2, 8, 3);
        for (int p : new int[] {5, 7, 11, 13, 97, 101, 103, 9901, 9907, 9923, 9929, 9931, 9941, 9949}) {
            taken(2, p, p - 1);
            taken(1, p, 1);
        }
    }

    /** "w: 1 to p less 1", "IllegalArgumentException if p or w is out of range". */
    private static void rootRange() {
        for (int p : new int[] {2, 3, 7, 9973}) {
            for (int w : new int[] {LOWEST, -p, 1 - p, -1, 0, p, p + 1, 2 * p + 1, HIGHEST}) {
                notTaken(1, p, w);
                notTaken(2, p, w);
            }
        }
        notTaken(2, 7, 13);
        notTaken(6, 7, 10);
        notTaken(6, 7, -4);
        notTaken(1, 7, 8);
        taken(6, 7, 3);
        taken(2, 7, 6);
        taken(1, 7, 1);
    }

    /** "the least power of it, from the first one on, that is 1 modulo p is that of n". */
    private static void rootLeastPower() {
        // by 13, the least power that is 1 of each w from 1 on
        int[] least = {1, 12, 3, 6, 4, 12, 12, 4, 3, 6, 12, 2};
        for (int n = 1; n <= 36; n++) {
            for (int w = 1; w <= 12; w++) {
                if (least[w - 1] == n) {
                    taken(n, 13, w);
                } else {
                    notTaken(n, 13, w);
                }
            }
        }
        taken(36, 37, 2);
        taken(36, 37, 35);
        notTaken(36, 37, 36);
        notTaken(36, 37, 1);
        notTaken(35, 37, 2);
        notTaken(36, 73, 5);
        notTaken(36, 2, 1);
        notTaken(4, 7, 6);
        for (int w = 1; w < 37; w++) {
            if (w != 1 && w != 36) {
                notTaken(2, 37, w);
            }
        }
    }

    /** "IllegalStateException if m is not 1", behind what is wrong with p or w. */
    private static void rootOfMoreX() {
        for (int[] one : new int[][] {{2, 3, 7, 2}, {36, 1, 37, 1}, {2, 1, 2, 1}, {6, 6, 7, 3}, {2, 18, 19, 2},
            {18, 2, 9973, 9972}, {3, 12, 13, 2}}) {
            Recipe recipe = () -> house(one[0], one[1], 1);
            String of = "29 of " + one[0] + " and " + one[1] + ": ";
            refused(of + "a root", STATE, recipe, house -> rootTold(house, one[2], one[3]));
            refused(of + "no prime", ARGUMENT, recipe, house -> rootTold(house, 9, 1));
            refused(of + "p beyond", ARGUMENT, recipe, house -> rootTold(house, 10007, 1));
            refused(of + "p below", ARGUMENT, recipe, house -> rootTold(house, 1, 1));
            refused(of + "w 0", ARGUMENT, recipe, house -> rootTold(house, one[2], 0));
            refused(of + "w beyond", ARGUMENT, recipe, house -> rootTold(house, one[2], one[2]));
            refused(of + "another power", ARGUMENT, recipe, house -> rootTold(house, 5, one[1] == 1 ? 4 : 1));
        }
    }

    /** A root is told again; a refused one leaves that which is there. */
    private static void rootAgain() {
        refused("29 again: no root", ARGUMENT, SEVEN, house -> rootTold(house, 7, 2));
        refused("29 again: no prime", ARGUMENT, SEVEN, house -> rootTold(house, 9, 2));
        refused("29 again: another prime, no root", ARGUMENT, SEVEN, house -> rootTold(house, 13, 2));
        Sumsetry house = SEVEN.made();
        house.put(5);
        rootDue("29 again: the other root", "nothing", house, 7, 5);
        stateDue("29 again", house, 1, 6, 3, 1, 7);
        due("29 again: by the other root", 5, () -> house.transform(1, 5));
        due("29 again: powers of the other root", 4, () -> house.transform(2, 1));
        rootDue("29 again: another prime", "nothing", house, 13, 4);
        stateDue("29 again, another prime", house, 1, 6, 3, 1, 13);
        due("29 again: by another prime", 10, () -> house.transform(1, 1));
    }

    /** "k: 0 to n less 1", "IllegalArgumentException if k is out of range". */
    private static void transformRange() {
        answered("30 k 0", 6, SEVEN, house -> house.transform(0, 0));
        answered("30 k 5", 0, SEVEN, house -> house.transform(0, 5));
        for (int wrong : new int[] {LOWEST, -6, -1, 6, 7, 36, HIGHEST}) {
            refused("30 k " + wrong, ARGUMENT, SEVEN, house -> house.transform(0, wrong));
            refused("30 k " + wrong + ", no set", INDEX, SEVEN, house -> house.transform(3, wrong));
            refused("30 k " + wrong + ", no root", ARGUMENT, () -> house(1, 6, 1), h -> h.transform(0, wrong));
        }
        Recipe least = () -> rooted(1, 2, 1, 1);
        answered("30 of 1: k 0", 1, least, house -> house.transform(0, 0));
        refused("30 of 1: k 1", ARGUMENT, least, house -> house.transform(0, 1));
        Recipe most = () -> rooted(36, 37, 2, first(36), bits(35), bits(0));
        answered("30 of 36: all, k 0", 36, most, house -> house.transform(0, 0));
        answered("30 of 36: all, k 35", 0, most, house -> house.transform(0, 35));
        answered("30 of 36: the last, k 0", 1, most, house -> house.transform(1, 0));
        answered("30 of 36: the last, k 1, twice which is 1", 19, most, house -> house.transform(1, 1));
        answered("30 of 36: 0, k 35", 1, most, house -> house.transform(2, 35));
        refused("30 of 36: k 36", ARGUMENT, most, house -> house.transform(0, 36));
        for (int wrong : NO_SETS) {
            refused("30 no set " + wrong, INDEX, SEVEN, house -> house.transform(wrong, 0));
        }
    }

    /** "the sum of the powers of w by k times y, of all its elements, modulo p": powers and sums come round. */
    private static void transformComesRound() {
        int[][] want = {{6, 0, 0, 0, 0, 0}, {1, 5, 4, 6, 2, 3}, {2, 2, 3, 5, 5, 4}};
        for (int set = 0; set < want.length; set++) {
            for (int k = 0; k < 6; k++) {
                int asked = set;
                int by = k;
                answered("30 transform(" + set + ", " + k + ")", want[set][k], SEVEN,
                        house -> house.transform(asked, by));
            }
        }
        answered("30 35 times 35 comes round to 1", 2, () -> rooted(36, 37, 2, bits(35)), h -> h.transform(0, 35));
        Recipe three = () -> rooted(2, 3, 2, 3);
        answered("30 by 3: two elements", 2, three, house -> house.transform(0, 0));
        answered("30 by 3: 1 and 2 are 0", 0, three, house -> house.transform(0, 1));
    }

    /** "IllegalStateException if no root was told": never, or ahead of another group. */
    private static void transformNoRoot() {
        Recipe none = () -> house(1, 6, 1);
        Recipe gone = () -> {
            Sumsetry house = SEVEN.made();
            house.group(1, 6);
            house.set(1);
            return house;
        };
        Recipe more = () -> house(2, 3, 1);
        for (Recipe recipe : new Recipe[] {none, gone}) {
            refused("30 no root", STATE, recipe, house -> house.transform(0, 5));
            refused("30 no root, k beyond", ARGUMENT, recipe, house -> house.transform(0, 6));
            refused("30 no root, no set", INDEX, recipe, house -> house.transform(1, 6));
            refused("31 no root", STATE, recipe, house -> house.waysAnew(0, 0, 5));
            refused("31 no root, no element", INDEX, recipe, house -> house.waysAnew(0, 0, 6));
        }
        refused("30 m is 2", STATE, more, house -> house.transform(0, 2));
        refused("30 m is 2, k beyond", ARGUMENT, more, house -> house.transform(0, 3));
        refused("31 m is 2", STATE, more, house -> house.waysAnew(0, 0, 5));
    }

    /** "the ways to an element by two sets, modulo the prime": none, all, and the last element. */
    private static void waysAnewLeastAndMost() {
        int[] want = {1, 0, 1, 0, 2, 0};
        for (int element = 0; element < 6; element++) {
            int asked = element;
            answered("31 of all twice to " + element, 6, SEVEN, house -> house.waysAnew(0, 0, asked));
            answered("31 of one and {1, 3} to " + element, element == 0 || element == 2 ? 1 : 0, SEVEN,
                    house -> house.waysAnew(1, 2, asked));
            answered("31 of {1, 3} twice to " + element, want[element], SEVEN,
                    house -> house.waysAnew(2, 2, asked));
            answered("31 of {5} twice to " + element, element == 4 ? 1 : 0, SEVEN,
                    house -> house.waysAnew(1, 1, asked));
        }
        Recipe most = () -> rooted(36, 37, 2, first(36), bits(35));
        answered("31 all of 36", 36, most, house -> house.waysAnew(0, 0, 0));
        answered("31 all of 36, the last", 36, most, house -> house.waysAnew(0, 0, 35));
        answered("31 the last twice", 1, most, house -> house.waysAnew(1, 1, 34));
        answered("31 the last twice, not to the last", 0, most, house -> house.waysAnew(1, 1, 35));
        answered("31 of the least group by 2", 1, () -> rooted(1, 2, 1, 1), house -> house.waysAnew(0, 0, 0));
        answered("31 of the least group by 9973", 1, () -> rooted(1, 9973, 1, 1), h -> h.waysAnew(0, 0, 0));
        answered("31 of 2 by 3", 2, () -> rooted(2, 3, 2, 3), house -> house.waysAnew(0, 0, 1));
        answered("31 of 2 by 9973", 2, () -> rooted(2, 9973, 9972, 3), house -> house.waysAnew(0, 0, 1));
    }

    private static void waysAnewNoRoot() {
        for (int wrong : NO_SETS) {
            refused("31 no set " + wrong, INDEX, SEVEN, house -> house.waysAnew(wrong, 2, 0));
            refused("31 no set " + wrong + " behind", INDEX, SEVEN, house -> house.waysAnew(2, wrong, 0));
            refused("31 no set " + wrong + ", no root", INDEX, () -> house(1, 6, 1), h -> h.waysAnew(wrong, 0, 0));
        }
        for (int wrong : new int[] {LOWEST, -6, -1, 6, 7, 36, HIGHEST}) {
            refused("31 no element " + wrong, INDEX, SEVEN, house -> house.waysAnew(0, 0, wrong));
        }
    }

    /** "what: 0 m, 1 n, 2 sets, 3 row, 4 the prime, 0 if none was told", "IllegalArgumentException if out of range". */
    private static void ofRange() {
        stateDue("32 new", new Sumsetry(), 1, 1, 0, 0, 0);
        stateDue("32 m is not n", house(3, 5, 1, 2), 3, 5, 2, 0, 0);
        Sumsetry full = fullOfSets(1, 36);
        full.root(73, 25);
        for (int count = 0; count < 12; count++) {
            full.put(count);
        }
        stateDue("32 full", full, 1, 36, 30, 12, 73);
        for (int wrong : new int[] {LOWEST, -2, -1, 5, 6, HIGHEST}) {
            refused("32 of(" + wrong + ")", ARGUMENT, SEVEN, house -> house.of(wrong));
            refused("32 new: of(" + wrong + ")", ARGUMENT, Sumsetry::new, house -> house.of(wrong));
        }
    }
}
