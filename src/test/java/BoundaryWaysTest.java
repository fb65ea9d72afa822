/**
 * The sentences that name a boundary case in "Ways, small sums" and in promises 8 to 15: no ways and all ways, sets of
 * one element and of all, what comes round, the last set and element and the first that is none.
 */
public final class BoundaryWaysTest extends Answers {
    private static final int[] NO_SETS = {LOWEST, -1, 5, 6, 29, 30, 31, HIGHEST};
    private static final Recipe TWELVE = () -> house(1, 12, bits(0, 1, 2), bits(0, 11), bits(5), bits(0, 6), first(12));
    private static final Recipe ALL = () -> house(6, 6, first(36), bits(35));
    private static final Recipe LEAST = () -> house(1, 1, 1);

    public static void main(String[] args) {
        waysNoneAndAll();
        waysComeRound();
        waysLastElement();
        popularLeast();
        popularNone();
        energyLeastAndMost();
        ofEveryGroup();
        stabilizerLeastAndMost();
        excessLeast();
        slackLeastAndMost();
        coverByOneAndAll();
        coverComesRound();
        noSuchSets();
        REPORT.end("BoundaryWaysTest");
    }

    /** "The ways to an element by A and B are the pairs": none, one, both orders of two, all. */
    private static void waysNoneAndAll() {
        int[] want = {1, 2, 3, 2, 1, 0, 0, 0, 0, 0, 0, 0};
        for (int element = 0; element < 12; element++) {
            int asked = element;
            answered("8 of {0, 1, 2} twice to " + element, want[element], TWELVE, house -> house.ways(0, 0, asked));
            answered("8 of all twice to " + element, 12, TWELVE, house -> house.ways(4, 4, asked));
            answered("8 of all and one to " + element, 1, TWELVE, house -> house.ways(4, 2, asked));
            answered("8 of one and three to " + element, element > 4 && element < 8 ? 1 : 0, TWELVE,
                    house -> house.ways(2, 0, asked));
        }
        answered("8 of all of 36, to 0", 36, ALL, house -> house.ways(0, 0, 0));
        answered("8 of all of 36, to the last", 36, ALL, house -> house.ways(0, 0, 35));
        answered("8 of the least group", 1, LEAST, house -> house.ways(0, 0, 0));
    }

    private static void waysComeRound() {
        int[] want = {2, 2, 1, 0, 0, 0, 0, 0, 0, 0, 0, 1};
        for (int element = 0; element < 12; element++) {
            int asked = element;
            answered("8 of {0, 1, 2} and {0, 11} to " + element, want[element], TWELVE,
                    house -> house.ways(0, 1, asked));
            answered("8 of {0, 6} twice to " + element, element % 6 == 0 ? 2 : 0, TWELVE,
                    house -> house.ways(3, 3, asked));
        }
        Recipe pairs = () -> house(3, 4, bits(11), bits(1, 5));
        answered("8 of 3 and 4: y comes round", 1, pairs, house -> house.ways(0, 1, 8));
        answered("8 of 3 and 4: both come round", 1, pairs, house -> house.ways(0, 1, 0));
        answered("8 of 3 and 4: y does not go over to x", 0, pairs, house -> house.ways(0, 1, 4));
        answered("8 of 3 and 4: the last twice", 1, pairs, house -> house.ways(0, 0, 6));
    }

    /** "IndexOutOfBoundsException if there is no such set or element". */
    private static void waysLastElement() {
        answered("8 the last element", 1, TWELVE, house -> house.ways(0, 1, 11));
        answered("8 the first element", 1, TWELVE, house -> house.ways(0, 0, 0));
        for (int wrong : new int[] {LOWEST, -12, -1, 12, 13, 36, HIGHEST}) {
            refused("8 no element " + wrong, INDEX, TWELVE, house -> house.ways(0, 1, wrong));
        }
        refused("8 no element of 36", INDEX, ALL, house -> house.ways(0, 1, 36));
        refused("8 no element of 1", INDEX, LEAST, house -> house.ways(0, 0, 1));
    }

    /** "at least so many ways", "least: 1 to 36", "IllegalArgumentException if least is out of range". */
    private static void popularLeast() {
        long[] want = {bits(0, 1, 2, 3, 4), bits(1, 2, 3), bits(2), 0, 0};
        for (int least = 1; least <= 5; least++) {
            int asked = least;
            answered("9 of {0, 1, 2} twice, " + least, want[least - 1], TWELVE, house -> house.popular(0, 0, asked));
        }
        answered("9 that comes round, 1", bits(0, 1, 2, 11), TWELVE, house -> house.popular(0, 1, 1));
        answered("9 that comes round, 2", bits(0, 1), TWELVE, house -> house.popular(0, 1, 2));
        answered("9 all of 12, 12", first(12), TWELVE, house -> house.popular(4, 4, 12));
        answered("9 all of 12, 13", 0L, TWELVE, house -> house.popular(4, 4, 13));
        answered("9 all of 36, 1", first(36), ALL, house -> house.popular(0, 0, 1));
        answered("9 all of 36, 36", first(36), ALL, house -> house.popular(0, 0, 36));
        answered("9 of the least group, 1", 1L, LEAST, house -> house.popular(0, 0, 1));
        for (int wrong : new int[] {LOWEST, -1, 0, 37, 38, HIGHEST}) {
            refused("9 " + wrong + " ways", ARGUMENT, ALL, house -> house.popular(0, 0, wrong));
            refused("9 " + wrong + " ways, no set ahead", INDEX, ALL, house -> house.popular(2, 0, wrong));
            refused("9 " + wrong + " ways, no set behind", INDEX, ALL, house -> house.popular(0, 2, wrong));
        }
    }

    /** "0 if there are none". */
    private static void popularNone() {
        answered("9 none of {0, 1, 2} and {0, 11}, 3", 0L, TWELVE, house -> house.popular(0, 1, 3));
        answered("9 none of one element, 2", 0L, TWELVE, house -> house.popular(2, 2, 2));
        answered("9 none of 36, 36", 0L, TWELVE, house -> house.popular(0, 0, 36));
        answered("9 none of the least group, 2", 0L, LEAST, house -> house.popular(0, 0, 2));
        Recipe nearly = () -> house(1, 36, first(36), first(35));
        answered("9 all but one, 35", first(36), nearly, house -> house.popular(0, 1, 35));
        answered("9 none of all but one, 36", 0L, nearly, house -> house.popular(0, 1, 36));
        Recipe fewer = () -> house(5, 7, first(35));
        answered("9 all of 35, 35", first(35), fewer, house -> house.popular(0, 0, 35));
        answered("9 none of 35, 36", 0L, fewer, house -> house.popular(0, 0, 36));
    }

    /** "The energy of A and B is the sum of the squares of the ways to all elements." */
    private static void energyLeastAndMost() {
        energiesDue("one element and itself", 1, TWELVE, 2, 2);
        energiesDue("one element and three", 3, TWELVE, 2, 0);
        energiesDue("{0, 1, 2} and itself", 19, TWELVE, 0, 0);
        energiesDue("{0, 6}, that comes round", 8, TWELVE, 3, 3);
        energiesDue("{0, 1, 2} and {0, 11}, that comes round", 10, TWELVE, 0, 1);
        energiesDue("all and {0, 1, 2}", 12 * 9, TWELVE, 4, 0);
        energiesDue("all of 36", 36 * 36 * 36, ALL, 0, 0);
        energiesDue("all of 36 and one", 36, ALL, 0, 1);
        energiesDue("one and all of 36", 36, ALL, 1, 0);
        energiesDue("the least group", 1, LEAST, 0, 0);
    }

    private static void energiesDue(String of, int want, Recipe recipe, int one, int other) {
        answered("10 of " + of, want, recipe, house -> house.energy(one, other));
        answered("11 of " + of, want, recipe, house -> house.energyAnew(one, other));
    }

    /** The last element alone and all elements, of every group: the least and the most. */
    private static void ofEveryGroup() {
        for (int m = 1; m <= 36; m++) {
            for (int n = 1; m * n <= 36; n++) {
                int size = m * n;
                int x = m;
                int y = n;
                Recipe recipe = () -> house(x, y, bits(size - 1), first(size));
                String of = " of " + m + " and " + n;
                energiesDue("the last" + of, 1, recipe, 0, 0);
                energiesDue("all" + of, size * size * size, recipe, 1, 1);
                energiesDue("all and the last" + of, size, recipe, 1, 0);
                answered("12 the last" + of, 1L, recipe, house -> house.stabilizer(0));
                answered("12 all" + of, first(size), recipe, house -> house.stabilizer(1));
                answered("13 the last" + of, 0, recipe, house -> house.excess(0, 0));
                answered("13 all" + of, 0, recipe, house -> house.excess(1, 1));
                answered("14 all, the last, all" + of, size * size - size, recipe, house -> house.slack(1, 0, 1));
                answered("15 all by all" + of, 1L, recipe, house -> house.cover(1, 1));
                answered("15 all by the last" + of, first(size), recipe, house -> house.cover(1, 0));
            }
        }
    }

    /** "all elements that, added to each element of the set, give the same set": 0 at least, all at most. */
    private static void stabilizerLeastAndMost() {
        long[][] want = {{bits(0), bits(0)}, {bits(11), bits(0)}, {first(12), first(12)}, {first(11), bits(0)},
            {bits(1, 3, 5, 7, 9, 11), bits(0, 2, 4, 6, 8, 10)}, {bits(1, 3, 5, 7, 9), bits(0)},
            {bits(5, 11), bits(0, 6)}, {bits(0, 1, 6, 7), bits(0, 6)}, {bits(2, 5, 8, 11), bits(0, 3, 6, 9)},
            {bits(3, 7, 11), bits(0, 4, 8)}, {bits(10, 11, 0), bits(0)}};
        for (long[] one : want) {
            answered("12 of 12: of " + Told.setOf(one[0]), one[1], () -> house(1, 12, one[0]),
                    house -> house.stabilizer(0));
        }
        answered("12 of 3 and 4: all x", bits(0, 4, 8), () -> house(3, 4, bits(3, 7, 11)), h -> h.stabilizer(0));
        answered("12 of 3 and 4: all y", first(4), () -> house(3, 4, bits(8, 9, 10, 11)), h -> h.stabilizer(0));
        answered("12 all of 36", first(36), ALL, house -> house.stabilizer(0));
        answered("12 the last of 36", 1L, ALL, house -> house.stabilizer(1));
        answered("12 of the least group", 1L, LEAST, house -> house.stabilizer(0));
    }

    /** Of the excess: single elements, sums that are all, and all but one. */
    private static void excessLeast() {
        answered("13 one and itself", 0, TWELVE, house -> house.excess(2, 2));
        answered("13 all and itself", 0, TWELVE, house -> house.excess(4, 4));
        answered("13 all and one", 0, TWELVE, house -> house.excess(4, 2));
        answered("13 {0, 6} and itself: 2 - 2 - 2 + 2", 0, TWELVE, house -> house.excess(3, 3));
        answered("13 {0, 1, 2} and {0, 6}: 6 - 6 - 2 + 2", 0, TWELVE, house -> house.excess(0, 3));
        answered("13 all of 36", 0, ALL, house -> house.excess(0, 0));
        answered("13 of the least group", 0, LEAST, house -> house.excess(0, 0));
        Recipe halves = () -> house(1, 12, first(6), first(7), first(5), bits(0, 3, 6));
        answered("13 a sum that is just all", 0, halves, house -> house.excess(0, 1));
        answered("13 a sum that is all but one: 11 - 5 - 7 + 1", 0, halves, house -> house.excess(2, 1));
        answered("13 a sum by steps: 9 - 3 - 3 + 1", 4, () -> house(1, 12, bits(0, 3, 6), first(3)),
                house -> house.excess(0, 1));
        answered("13 {0, 3, 6} and itself, that comes round: 4 - 4 - 4 + 4", 0, halves,
                house -> house.excess(3, 3));
    }

    /** Of the slack: single elements, the same set thrice, all. */
    private static void slackLeastAndMost() {
        answered("14 one thrice", 0, TWELVE, house -> house.slack(2, 2, 2));
        answered("14 {0, 11} thrice: 3 * 3 - 3 * 2", 3, TWELVE, house -> house.slack(1, 1, 1));
        answered("14 {0, 6} thrice, that comes round: 2 * 2 - 2 * 2", 0, TWELVE, house -> house.slack(3, 3, 3));
        answered("14 one, {0, 1, 2}, one: 3 * 3 - 1 * 3", 6, TWELVE, house -> house.slack(2, 0, 2));
        answered("14 {0, 1, 2}, one, {0, 6}: 3 * 2 - 6 * 1", 0, TWELVE, house -> house.slack(0, 2, 3));
        answered("14 {0, 6}, {0, 1, 2}, one: 6 * 3 - 2 * 3", 12, TWELVE, house -> house.slack(3, 0, 2));
        answered("14 all thrice", 0, ALL, house -> house.slack(0, 0, 0));
        answered("14 all, one, all: 36 * 36 - 36", 1260, ALL, house -> house.slack(0, 1, 0));
        answered("14 one, all, one: 36 * 36 - 36", 1260, ALL, house -> house.slack(1, 0, 1));
        answered("14 of the least group", 0, LEAST, house -> house.slack(0, 0, 0));
    }

    /** "by rising numbers", "none of the elements x + b is such a one of an x that was taken ahead of it". */
    private static void coverByOneAndAll() {
        answered("15 by one element all is taken", bits(0, 1, 2), TWELVE, house -> house.cover(0, 2));
        answered("15 all by one element", first(12), TWELVE, house -> house.cover(4, 2));
        answered("15 by all the lowest alone", bits(0), TWELVE, house -> house.cover(0, 4));
        answered("15 by all the lowest, which is 5", bits(5), TWELVE, house -> house.cover(2, 4));
        answered("15 by itself, with nothing beside", bits(0), TWELVE, house -> house.cover(3, 3));
        answered("15 one by many", bits(5), TWELVE, house -> house.cover(2, 0));
        Recipe short5 = () -> house(1, 12, first(5), bits(0, 1), bits(3, 4), bits(0, 2));
        answered("15 those that touch at one element are not taken", bits(0, 2, 4), short5, h -> h.cover(0, 1));
        answered("15 by one that does not have 0", bits(0, 2, 4), short5, house -> house.cover(0, 2));
        answered("15 what was not taken covers nothing", bits(0, 1, 4), short5, house -> house.cover(0, 3));
        answered("15 all of 36 by all", 1L, ALL, house -> house.cover(0, 0));
        answered("15 the last of 36", bits(35), ALL, house -> house.cover(1, 1));
        answered("15 of the least group", 1L, LEAST, house -> house.cover(0, 0));
    }

    private static void coverComesRound() {
        for (int size = 2; size <= 36; size++) {
            long want = 0;
            for (int x = 0; x + 1 < size; x += 2) {
                want |= bits(x);
            }
            int of = size;
            answered("15 all of " + size + " by {0, 1}", want, () -> house(1, of, first(of), bits(0, 1)),
                    house -> house.cover(0, 1));
        }
        answered("15 the last touches the first", bits(0), () -> house(1, 12, bits(0, 11), bits(0, 1)),
                house -> house.cover(0, 1));
        answered("15 of 3 and 4: y comes round", bits(0, 2), () -> house(3, 4, first(4), bits(0, 1)),
                house -> house.cover(0, 1));
        answered("15 of 3 and 4: x comes round", bits(0), () -> house(3, 4, bits(0, 4, 8), bits(0, 4)),
                house -> house.cover(0, 1));
    }

    /** "IndexOutOfBoundsException if there is no such set", in each place of each call. */
    private static void noSuchSets() {
        for (int wrong : NO_SETS) {
            String no = " no set " + wrong;
            refused("8" + no, INDEX, TWELVE, house -> house.ways(wrong, 4, 0));
            refused("8" + no + " behind", INDEX, TWELVE, house -> house.ways(4, wrong, 0));
            refused("9" + no, INDEX, TWELVE, house -> house.popular(wrong, 4, 1));
            refused("9" + no + " behind", INDEX, TWELVE, house -> house.popular(4, wrong, 1));
            refused("10" + no, INDEX, TWELVE, house -> house.energy(wrong, 4));
            refused("10" + no + " behind", INDEX, TWELVE, house -> house.energy(4, wrong));
            refused("11" + no, INDEX, TWELVE, house -> house.energyAnew(wrong, 4));
            refused("11" + no + " behind", INDEX, TWELVE, house -> house.energyAnew(4, wrong));
            refused("12" + no, INDEX, TWELVE, house -> house.stabilizer(wrong));
            refused("13" + no, INDEX, TWELVE, house -> house.excess(wrong, 4));
            refused("13" + no + " behind", INDEX, TWELVE, house -> house.excess(4, wrong));
            refused("14" + no, INDEX, TWELVE, house -> house.slack(wrong, 4, 4));
            refused("14" + no + " between", INDEX, TWELVE, house -> house.slack(4, wrong, 4));
            refused("14" + no + " behind", INDEX, TWELVE, house -> house.slack(4, 4, wrong));
            refused("15" + no, INDEX, TWELVE, house -> house.cover(wrong, 4));
            refused("15" + no + " behind", INDEX, TWELVE, house -> house.cover(4, wrong));
        }
    }
}
