/**
 * The sentences that name a boundary case in "Orders" and "Maps", and in promises 16 to 20: one sum and a hundred, the
 * least order and none, what leaves an empty set, six elements and seven, maps that there are not.
 */
public final class BoundaryOrdersTest extends Answers {
    private static final long EVEN = 0x555555555L;
    private static final int[] NO_SETS = {LOWEST, -1, 5, 6, 29, 30, 31, HIGHEST};
    private static final Recipe WIDE = () -> house(1, 36, bits(1), bits(0, 1), bits(0, 18), bits(35), first(36));
    /** Steps of 1, of 5 and of 1 round 0; no steps; a single element. */
    private static final Recipe STEPS = () -> house(1, 12, first(3), bits(3, 8, 1), bits(11, 0, 1), bits(0, 1, 3),
            bits(11));
    /** Six elements, seven and one. */
    private static final Recipe MANY = () -> house(1, 36, first(6), bits(30, 31, 32, 33, 34, 35), first(7), bits(4),
            bits(0, 2, 4, 6, 8, 10));

    public static void main(String[] args) {
        sumsMany();
        sumsComeRound();
        orderLeast();
        orderNone();
        orderGreatest();
        essentialEmpty();
        essentialNone();
        mapsSix();
        mapsUnlikeSizes();
        mapsOrder();
        mapsJustIf();
        imageFirst();
        imageNone();
        imageLastElement();
        mapsBehindMaps();
        noSuchSets();
        REPORT.end("BoundaryOrdersTest");
    }

    /** "many: 1 to 100", "IllegalArgumentException if many is out of range". */
    private static void sumsMany() {
        answered("16 one of {0, 1}", bits(0, 1), WIDE, house -> house.sums(1, 1));
        answered("16 two of {0, 1}", bits(0, 1, 2), WIDE, house -> house.sums(1, 2));
        answered("16 a hundred of {0, 1}", first(36), WIDE, house -> house.sums(1, 100));
        answered("16 one of all", first(36), WIDE, house -> house.sums(4, 1));
        answered("16 a hundred of all", first(36), WIDE, house -> house.sums(4, 100));
        answered("16 a hundred of the least group", 1L, () -> house(1, 1, 1), house -> house.sums(0, 100));
        for (int wrong : new int[] {LOWEST, -100, -1, 0, 101, 102, HIGHEST}) {
            refused("16 so many: " + wrong, ARGUMENT, WIDE, house -> house.sums(1, wrong));
            refused("16 so many of no set: " + wrong, INDEX, WIDE, house -> house.sums(5, wrong));
        }
    }

    /** Sums of one element come round, by x and by y; those of {0, 1} are all from 35 on. */
    private static void sumsComeRound() {
        for (int many = 1; many <= 100; many++) {
            int asked = many;
            answered("16 1, so often: " + many, bits(many % 36), WIDE, house -> house.sums(0, asked));
            answered("16 35, so often: " + many, bits((36 * 100 - many) % 36), WIDE, house -> house.sums(3, asked));
            answered("16 0 and 18, so often: " + many, bits(0, 18), WIDE, house -> house.sums(2, asked));
            answered("16 0 and 1, so often: " + many, first(Math.min(many + 1, 36)), WIDE,
                    house -> house.sums(1, asked));
            answered("16 5 of 3 and 4, so often: " + many, bits(many % 3 * 4 + many % 4),
                    () -> house(3, 4, bits(5)), house -> house.sums(0, asked));
        }
    }

    /** "The order of a set is the least h, from 1 on, of which these are all elements of the group". */
    private static void orderLeast() {
        answered("17 all of 36", 1, WIDE, house -> house.order(4));
        answered("17 all of 1", 1, () -> house(1, 1, 1), house -> house.order(0));
        answered("17 all of 2", 1, () -> house(2, 1, 3), house -> house.order(0));
        answered("17 all but 0", 2, () -> house(1, 36, first(36) & ~1L), house -> house.order(0));
        answered("17 all but the last", 2, () -> house(6, 6, first(35)), house -> house.order(0));
        answered("17 one more than half", 2, () -> house(1, 36, first(19)), house -> house.order(0));
        answered("17 just half", 3, () -> house(1, 36, first(18)), house -> house.order(0));
        answered("17 three of 2 and 2", 2, () -> house(2, 2, 7), house -> house.order(0));
        answered("17 three of 2 and 2, without 0", 2, () -> house(2, 2, 14), house -> house.order(0));
    }

    /** "there may be none", "NONE if it has none". */
    private static void orderNone() {
        due("17 NONE", -1, () -> Sumsetry.NONE);
        answered("17 one of 2", Sumsetry.NONE, () -> house(1, 2, 2), house -> house.order(0));
        answered("17 0 of 2", Sumsetry.NONE, () -> house(1, 2, 1), house -> house.order(0));
        answered("17 one of 36", Sumsetry.NONE, WIDE, house -> house.order(0));
        answered("17 {0, 18}", Sumsetry.NONE, WIDE, house -> house.order(2));
        answered("17 all even", Sumsetry.NONE, () -> house(1, 36, EVEN), house -> house.order(0));
        answered("17 all odd, sums even or odd in turn", Sumsetry.NONE, () -> house(1, 36, EVEN << 1),
                house -> house.order(0));
        answered("17 all even and one odd", 2, () -> house(1, 36, EVEN | 2), house -> house.order(0));
        answered("17 {1, 2} of 2 and 2", Sumsetry.NONE, () -> house(2, 2, 6), house -> house.order(0));
        answered("17 all y of one x", Sumsetry.NONE, () -> house(6, 6, first(6) << 12), house -> house.order(0));
    }

    /** Two elements that are neighbours need one sum less than there are elements. */
    private static void orderGreatest() {
        for (int size = 2; size <= 36; size++) {
            int of = size;
            answered("17 {0, 1} of " + size, size - 1, () -> house(1, of, 3), house -> house.order(0));
            answered("17 {0, 1} of " + size + ", by x", size - 1, () -> house(of, 1, 3), house -> house.order(0));
            answered("17 the last and 0 of " + size, size - 1, () -> house(1, of, bits(0, of - 1)),
                    house -> house.order(0));
        }
        answered("17 {0, 1, 6} of 6 and 6", 10, () -> house(6, 6, bits(0, 1, 6)), house -> house.order(0));
    }

    /** "essential, if the set without it has none, or is empty". */
    private static void essentialEmpty() {
        answered("18 without it, it is empty", 1L, () -> house(1, 1, 1), house -> house.essential(0));
        answered("18 both of 2", 3L, () -> house(1, 2, 3), house -> house.essential(0));
        answered("18 both of {0, 1} of 36", 3L, WIDE, house -> house.essential(1));
        answered("18 both of {0, 35}", bits(0, 35), () -> house(36, 1, bits(0, 35)), house -> house.essential(0));
        answered("18 the middle of {0, 1, 2} of 6", 2L, () -> house(1, 6, 7), house -> house.essential(0));
        answered("18 both but 0, of {0, 2, 3} of 6", bits(2, 3), () -> house(1, 6, bits(0, 2, 3)),
                house -> house.essential(0));
        answered("18 the first and the last, of {0, 2, 35}", bits(0, 35), () -> house(1, 36, bits(0, 2, 35)),
                house -> house.essential(0));
        answered("18 the odd one", bits(35), () -> house(1, 36, EVEN | bits(35)), house -> house.essential(0));
    }

    /** "0 if there are none, or it has no order". */
    private static void essentialNone() {
        answered("18 none of all of 3", 0L, () -> house(1, 3, 7), house -> house.essential(0));
        answered("18 none of all of 36", 0L, WIDE, house -> house.essential(4));
        answered("18 none of two even, two odd", 0L, () -> house(1, 4, 15), house -> house.essential(0));
        answered("18 no order: one of 36", 0L, WIDE, house -> house.essential(0));
        answered("18 no order: one of 2", 0L, () -> house(1, 2, 1), house -> house.essential(0));
        answered("18 no order: {0, 18}", 0L, WIDE, house -> house.essential(2));
        answered("18 no order: all even", 0L, () -> house(1, 36, EVEN), house -> house.essential(0));
        answered("18 no order: all odd", 0L, () -> house(1, 36, EVEN << 1), house -> house.essential(0));
    }

    /** "IllegalStateException if one of both sets has more than 6 elements". */
    private static void mapsSix() {
        for (int order = 2; order <= 3; order++) {
            int by = order;
            answered("19 six onto six, by " + order, 30, MANY, house -> house.image(0, 1, by, 0));
            answered("19 six onto six, the last, by " + order, 35, MANY, house -> house.image(0, 1, by, 5));
            answered("19 six onto steps of two, the last, by " + order, 10, MANY, house -> house.image(0, 4, by, 5));
            answered("20 six onto six, by " + order, 2, MANY, house -> house.maps(0, 1, by));
            answered("20 six onto themselves, by " + order, 2, MANY, house -> house.maps(4, 4, by));
            for (int[] one : new int[][] {{2, 0}, {0, 2}, {2, 2}, {2, 3}, {3, 2}}) {
                String call = "(" + one[0] + ", " + one[1] + ", " + order + ")";
                refused("19 seven: image" + call, STATE, MANY, house -> house.image(one[0], one[1], by, 4));
                refused("20 seven: maps" + call, STATE, MANY, house -> house.maps(one[0], one[1], by));
            }
        }
        Recipe all = () -> house(1, 36, first(36));
        refused("19 all of 36", STATE, all, house -> house.image(0, 0, 2, 0));
        refused("20 all of 36", STATE, all, house -> house.maps(0, 0, 3));
        refused("19 seven, order 1", ARGUMENT, MANY, house -> house.image(2, 2, 1, 0));
        refused("19 seven, order 4, no element", INDEX, MANY, house -> house.image(2, 2, 4, 36));
        refused("20 seven, order 4", ARGUMENT, MANY, house -> house.maps(2, 2, 4));
        refused("20 seven, order 4, no set", INDEX, MANY, house -> house.maps(2, 5, 4));
    }

    /** "there is none, if one set has more elements". */
    private static void mapsUnlikeSizes() {
        for (int[] one : new int[][] {{0, 3}, {3, 0}}) {
            answered("20 six and one " + one[0], 0, MANY, house -> house.maps(one[0], one[1], 2));
            answered("19 six and one " + one[0], Sumsetry.NONE, MANY, house -> house.image(one[0], one[1], 2, 4));
        }
        Recipe pair = () -> house(1, 12, bits(0, 1), bits(0, 1, 2), bits(4));
        for (int order = 2; order <= 3; order++) {
            int by = order;
            answered("20 two and three, by " + order, 0, pair, house -> house.maps(0, 1, by));
            answered("20 three and two, by " + order, 0, pair, house -> house.maps(1, 0, by));
            answered("20 one and one, by " + order, 1, pair, house -> house.maps(2, 2, by));
            answered("19 two and three, by " + order, Sumsetry.NONE, pair, house -> house.image(0, 1, by, 0));
            answered("19 three and two, by " + order, Sumsetry.NONE, pair, house -> house.image(1, 0, by, 0));
            answered("19 one and one, by " + order, 4, pair, house -> house.image(2, 2, by, 4));
            answered("20 of the least group, by " + order, 1, () -> house(1, 1, 1), house -> house.maps(0, 0, by));
            answered("19 of the least group, by " + order, 0, () -> house(1, 1, 1),
                    house -> house.image(0, 0, by, 0));
        }
    }

    /** "order: 2 or 3", "IllegalArgumentException if order is out of range". */
    private static void mapsOrder() {
        for (int wrong : new int[] {LOWEST, -2, -1, 0, 1, 4, 5, HIGHEST}) {
            refused("19 order " + wrong, ARGUMENT, STEPS, house -> house.image(0, 1, wrong, 0));
            refused("19 order " + wrong + ", not of the set", ARGUMENT, STEPS, house -> house.image(0, 1, wrong, 9));
            refused("19 order " + wrong + ", unlike sizes", ARGUMENT, STEPS, house -> house.image(0, 4, wrong, 0));
            refused("19 order " + wrong + ", no element", INDEX, STEPS, house -> house.image(0, 1, wrong, 12));
            refused("19 order " + wrong + ", no set", INDEX, STEPS, house -> house.image(5, 1, wrong, 0));
            refused("20 order " + wrong, ARGUMENT, STEPS, house -> house.maps(0, 1, wrong));
            refused("20 order " + wrong + ", unlike sizes", ARGUMENT, STEPS, house -> house.maps(0, 4, wrong));
            refused("20 order " + wrong + ", no set", INDEX, STEPS, house -> house.maps(0, 5, wrong));
        }
        // of 6, three times 0 and three times 2 are alike, three times 1 is not
        Recipe six = () -> house(1, 6, bits(0, 1), bits(0, 2), bits(0, 5));
        answered("20 by 2", 2, six, house -> house.maps(0, 1, 2));
        answered("20 by 3", 0, six, house -> house.maps(0, 1, 3));
        answered("20 back, by 2", 2, six, house -> house.maps(1, 0, 2));
        answered("20 back, by 3", 0, six, house -> house.maps(1, 0, 3));
        answered("20 onto 0 and 5, by 3", 2, six, house -> house.maps(0, 2, 3));
        answered("19 by 2", 2, six, house -> house.image(0, 1, 2, 1));
        answered("19 by 3", Sumsetry.NONE, six, house -> house.image(0, 1, 3, 1));
    }

    /** "are alike just if the sums of what these elements are given are alike", "each as often as one likes". */
    private static void mapsJustIf() {
        // twice 0 and twice 6 are alike, twice 1 is not
        Recipe pairs = () -> house(1, 12, bits(0, 6), bits(0, 1), bits(3, 9));
        answered("20 alike sums are given unlike ones", 0, pairs, house -> house.maps(0, 1, 2));
        answered("20 unlike sums are given alike ones", 0, pairs, house -> house.maps(1, 0, 2));
        answered("20 alike sums are given alike ones", 2, pairs, house -> house.maps(0, 2, 2));
        answered("20 alike sums are given alike ones, by 3", 2, pairs, house -> house.maps(0, 2, 3));
        answered("19 alike sums are given unlike ones", Sumsetry.NONE, pairs, house -> house.image(0, 1, 2, 0));
        answered("19 unlike sums are given alike ones", Sumsetry.NONE, pairs, house -> house.image(1, 0, 2, 0));
        answered("20 steps onto none", 0, STEPS, house -> house.maps(0, 3, 2));
        answered("20 none onto steps", 0, STEPS, house -> house.maps(3, 0, 2));
        answered("20 no sums alike, all ways", 6, STEPS, house -> house.maps(3, 3, 2));
        answered("20 steps onto themselves, there and back", 2, STEPS, house -> house.maps(0, 0, 2));
        answered("20 all of 3 onto itself, all ways", 6, () -> house(1, 3, 7), house -> house.maps(0, 0, 2));
    }

    /** "that which gives the lowest element of A the lowest one, of these the next element, and so on". */
    private static void imageFirst() {
        imagesDue("the lowest of both ends", 0, 1, 1, 8, 3);
        imagesDue("the middle goes to the middle, which is the lowest", 0, 2, 1, 0, 11);
        imagesDue("onto itself", 0, 0, 0, 1, 2);
        imagesDue("of no steps, all as they are", 3, 3, 0, 1, 3);
        imagesDue("the lowest is the middle", 2, 0, 1, 0, 2);
        imagesDue("the lowest is the middle, of both", 2, 2, 0, 1, 11);
    }

    private static void imagesDue(String what, int set, int other, int... want) {
        Integer[] members = Told.setOf(STEPS.made().elements(set)).toArray(new Integer[0]);
        for (int order = 2; order <= 3; order++) {
            for (int place = 0; place < want.length; place++) {
                int by = order;
                int element = members[place];
                answered("19 " + what + ", by " + order + ", " + element, want[place], STEPS,
                        house -> house.image(set, other, by, element));
            }
        }
    }

    /** "NONE if there is no map, or the set does not have the element". */
    private static void imageNone() {
        answered("19 no map", Sumsetry.NONE, STEPS, house -> house.image(0, 3, 2, 0));
        answered("19 no map, nor the element", Sumsetry.NONE, STEPS, house -> house.image(0, 3, 2, 5));
        answered("19 unlike sizes, nor the element", Sumsetry.NONE, STEPS, house -> house.image(0, 4, 2, 11));
        for (int element = 3; element < 12; element++) {
            int asked = element;
            answered("19 a map, not the element " + element, Sumsetry.NONE, STEPS,
                    house -> house.image(0, 1, 2, asked));
        }
        answered("19 the other set has the element", Sumsetry.NONE, STEPS, house -> house.image(0, 1, 2, 8));
        Sumsetry house = STEPS.made();
        due("19 there is a map", 1, () -> house.image(0, 1, 2, 0));
        due("19 then there is none", Sumsetry.NONE, () -> house.image(0, 3, 2, 0));
        due("20 then there is none", 0, () -> house.maps(0, 3, 2));
        due("20 then there are some", 2, () -> house.maps(0, 1, 2));
        due("19 then unlike sizes", Sumsetry.NONE, () -> house.image(4, 1, 2, 11));
        due("19 then there is one again", 3, () -> house.image(0, 1, 2, 2));
    }

    /** "IndexOutOfBoundsException if there is no such set or element". */
    private static void imageLastElement() {
        answered("19 the last element", 3, STEPS, house -> house.image(2, 1, 2, 11));
        answered("19 the first element", 1, STEPS, house -> house.image(0, 1, 2, 0));
        answered("19 the last element of 36", 5, MANY, house -> house.image(1, 0, 3, 35));
        for (int wrong : new int[] {LOWEST, -12, -1, 12, 13, 36, HIGHEST}) {
            refused("19 no element " + wrong, INDEX, STEPS, house -> house.image(0, 1, 2, wrong));
            refused("19 no element " + wrong + ", no map", INDEX, STEPS, house -> house.image(0, 3, 2, wrong));
            refused("19 no element " + wrong + ", order 4", INDEX, STEPS, house -> house.image(0, 1, 4, wrong));
        }
        refused("19 no element, seven", INDEX, MANY, house -> house.image(2, 2, 2, -1));
        refused("19 no element, seven, beyond", INDEX, MANY, house -> house.image(2, 2, 2, 36));
    }

    /** What was asked before leaves nothing behind: greater sets ahead of smaller ones, alike sums ahead of others. */
    private static void mapsBehindMaps() {
        answered("19 not of the set, but of the one asked before", Sumsetry.NONE, STEPS, house -> {
            house.image(0, 1, 2, 0);
            return house.image(4, 4, 2, 1);
        });
        answered("20 3 + 9 is 0, as 0 + 0 was before", 2, () -> house(1, 12, bits(0, 6), bits(3, 9)), house -> {
            house.maps(0, 0, 2);
            return house.maps(1, 1, 2);
        });
        answered("20 by 2 behind by 3", 2, () -> house(1, 6, bits(0, 1), bits(0, 2)), house -> {
            house.maps(0, 1, 3);
            return house.maps(0, 1, 2);
        });
        answered("20 of another group", 0, () -> house(1, 12, bits(0, 1), bits(0, 6)), house -> {
            house.maps(1, 1, 2);
            house.group(1, 13);
            house.set(bits(0, 1, 3));
            house.set(bits(0, 1, 2));
            return house.maps(0, 1, 2);
        });
    }

    /** "IndexOutOfBoundsException if there is no such set", in each place of each call. */
    private static void noSuchSets() {
        for (int wrong : NO_SETS) {
            String no = " no set " + wrong;
            refused("16" + no, INDEX, STEPS, house -> house.sums(wrong, 1));
            refused("17" + no, INDEX, STEPS, house -> house.order(wrong));
            refused("18" + no, INDEX, STEPS, house -> house.essential(wrong));
            refused("19" + no, INDEX, STEPS, house -> house.image(wrong, 4, 2, 0));
            refused("19" + no + " behind", INDEX, STEPS, house -> house.image(4, wrong, 2, 0));
            refused("20" + no, INDEX, STEPS, house -> house.maps(wrong, 4, 2));
            refused("20" + no + " behind", INDEX, STEPS, house -> house.maps(4, wrong, 2));
        }
    }
}
