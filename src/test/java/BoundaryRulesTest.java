/**
 * The sentences that name a boundary case in "Rules, games" and in promises 21 to 24: the empty set, elements that are
 * alike, sums that come round, twelve elements and thirteen, a group of ten and of eleven, a game that is over.
 */
public final class BoundaryRulesTest extends Answers {
    private static final int FREE = Sumsetry.FREE;
    private static final int SIDON = Sumsetry.SIDON;
    private static final int NO_STEPS = Sumsetry.NO_STEPS;
    private static final int APART = Sumsetry.APART;
    private static final int[] NO_RULES = {LOWEST, -2, -1, 4, 5, HIGHEST};
    private static final int[][] OF_TEN = {{1, 10}, {10, 1}, {2, 5}, {5, 2}};
    private static final int[][] OF_MORE = {{1, 11}, {11, 1}, {3, 4}, {2, 6}, {12, 1}, {1, 36}, {6, 6}};

    public static void main(String[] args) {
        emptySet();
        free();
        sidon();
        noSteps();
        apart();
        leastGroup();
        greatestTwelve();
        greatestEmpty();
        greatestLowest();
        winsTen();
        winsAlready();
        winsLost();
        winsWhatever();
        winsBehindWins();
        winsElements();
        noSuchRules();
        noSuchSets();
        REPORT.end("BoundaryRulesTest");
    }

    private static void keepsDue(String what, boolean want, int rule, int m, int n, int... elements) {
        answered("21 rule " + rule + ": " + what, want, () -> house(m, n, bits(elements)), h -> h.keeps(0, rule));
    }

    /** "the empty set keeps each": a game can begin with it, and it is what is left where nothing else keeps a rule. */
    private static void emptySet() {
        for (int rule = FREE; rule <= APART; rule++) {
            int by = rule;
            long want = Told.bitsOf(new Told(3, 3).wins(rule, Told.setOf(0)));
            answered("24 rule " + rule + ": the empty set was put", want, () -> house(3, 3),
                    house -> house.wins(by, 0));
        }
        answered("22 the empty set is left", 0L, () -> house(1, 5, 1), house -> house.greatest(0, FREE));
        answered("23 the empty set is left", 0L, () -> house(1, 5, 1), house -> house.greatestAnew(0, FREE));
        answered("22 the empty set is left, apart", 0L, () -> house(1, 5, 1), house -> house.greatest(0, APART));
        answered("23 the empty set is left, apart", 0L, () -> house(1, 5, 1), house -> house.greatestAnew(0, APART));
    }

    /** "no elements x, y and z of it, alike or not, have x + y = z". */
    private static void free() {
        keepsDue("0 + 0 = 0", false, FREE, 1, 12, 0);
        keepsDue("5 + 0 = 5", false, FREE, 1, 12, 0, 5);
        keepsDue("6 + 6 is 0", true, FREE, 1, 12, 6);
        keepsDue("5 alone", true, FREE, 1, 12, 5);
        keepsDue("1 + 1 = 2", false, FREE, 1, 12, 1, 2);
        keepsDue("1 and 3", true, FREE, 1, 12, 1, 3);
        keepsDue("1 + 3 = 4", false, FREE, 1, 12, 1, 3, 4);
        keepsDue("8 + 8 = 4, come round", false, FREE, 1, 12, 4, 8);
        keepsDue("9 + 9 = 6, come round", false, FREE, 1, 12, 6, 9);
        keepsDue("5 and 9", true, FREE, 1, 12, 5, 9);
        keepsDue("5 + 9 = 2, come round", false, FREE, 1, 12, 2, 5, 9);
        keepsDue("5 + 7 is 0", true, FREE, 1, 12, 5, 7);
        keepsDue("11 + 11 is 10", true, FREE, 1, 12, 9, 11);
        keepsDue("11 + 11 = 10", false, FREE, 1, 12, 10, 11);
        keepsDue("all odd", true, FREE, 1, 12, 1, 3, 5, 7, 9, 11);
        keepsDue("all odd and one even", false, FREE, 1, 12, 1, 3, 5, 7, 8, 9, 11);
        keepsDue("8 + 8 = 4 by x", false, FREE, 3, 4, 4, 8);
        keepsDue("8 + 8 is 1 by y", true, FREE, 1, 15, 8, 2);
        keepsDue("3 + 3 = 2 by y alone", false, FREE, 3, 4, 2, 3);
        keepsDue("7 + 7 = 10 by both", false, FREE, 3, 4, 7, 10);
        keepsDue("35 + 35 = 34", false, FREE, 1, 36, 34, 35);
        keepsDue("34 and 33 of 36", true, FREE, 1, 36, 33, 34);
    }

    /** "if x + y = z + w, for elements of it, alike or not, x and y are z and w, in some order". */
    private static void sidon() {
        keepsDue("0 alone", true, SIDON, 1, 12, 0);
        keepsDue("11 alone", true, SIDON, 1, 12, 11);
        keepsDue("5 and 0 are 0 and 5", true, SIDON, 1, 12, 0, 5);
        keepsDue("0 + 0 = 6 + 6", false, SIDON, 1, 12, 0, 6);
        keepsDue("3 + 3 = 9 + 9", false, SIDON, 1, 12, 3, 9);
        keepsDue("1 + 1 = 0 + 2", false, SIDON, 1, 12, 0, 1, 2);
        keepsDue("0 + 0 = 11 + 1", false, SIDON, 1, 12, 0, 1, 11);
        keepsDue("0, 1 and 3", true, SIDON, 1, 12, 0, 1, 3);
        keepsDue("0 + 4 = 1 + 3", false, SIDON, 1, 12, 0, 1, 3, 4);
        keepsDue("1, 2 and 5", true, SIDON, 1, 12, 1, 2, 5);
        keepsDue("1, 2 and 10", true, SIDON, 1, 12, 1, 2, 10);
        keepsDue("1, 5 and 10", true, SIDON, 1, 12, 1, 5, 10);
        keepsDue("2, 5 and 10", true, SIDON, 1, 12, 2, 5, 10);
        keepsDue("1 + 2 = 5 + 10, come round", false, SIDON, 1, 12, 1, 2, 5, 10);
        keepsDue("1 + 1 = 7 + 7, come round", false, SIDON, 1, 12, 0, 1, 3, 7);
        keepsDue("0, 1, 3 and 9 of 13", true, SIDON, 1, 13, 0, 1, 3, 9);
        keepsDue("1 + 1 = 2 + 2 of 2 and 2", false, SIDON, 2, 2, 1, 2);
        keepsDue("4 + 4 = 8 by x, 8 + 0", false, SIDON, 3, 4, 0, 4, 8);
        keepsDue("the last two of 36", true, SIDON, 1, 36, 34, 35);
        keepsDue("the last three of 36", false, SIDON, 1, 36, 33, 34, 35);
    }

    /** "no three elements of it, each unlike both others, have x + z = y + y". */
    private static void noSteps() {
        keepsDue("one element", true, NO_STEPS, 1, 12, 0);
        keepsDue("two elements, 0 + 0 = 6 + 6", true, NO_STEPS, 1, 12, 0, 6);
        keepsDue("two elements of 2", true, NO_STEPS, 1, 2, 0, 1);
        keepsDue("two elements of 3", true, NO_STEPS, 1, 3, 1, 2);
        keepsDue("0 + 2 = 1 + 1", false, NO_STEPS, 1, 12, 0, 1, 2);
        keepsDue("0, 1 and 3", true, NO_STEPS, 1, 12, 0, 1, 3);
        keepsDue("11 + 1 = 0 + 0, come round", false, NO_STEPS, 1, 12, 0, 1, 11);
        keepsDue("10 + 0 = 11 + 11, come round", false, NO_STEPS, 1, 12, 0, 10, 11);
        keepsDue("0 + 6 = 3 + 3", false, NO_STEPS, 1, 12, 0, 3, 6);
        keepsDue("3 + 9 = 0 + 0, come round", false, NO_STEPS, 1, 12, 0, 3, 9);
        keepsDue("0 + 6 = 9 + 9, come round", false, NO_STEPS, 1, 12, 0, 6, 9);
        keepsDue("0, 1 and 6: 0 and 6 are partners of themselves", true, NO_STEPS, 1, 12, 0, 1, 6);
        keepsDue("0, 4 and 8, each between the others", false, NO_STEPS, 1, 12, 0, 4, 8);
        keepsDue("0 + 2 = 3 + 3 of 4", false, NO_STEPS, 1, 4, 0, 2, 3);
        keepsDue("1 + 3 = 0 + 0 of 4", false, NO_STEPS, 1, 4, 0, 1, 3);
        keepsDue("all of 3", false, NO_STEPS, 1, 3, 0, 1, 2);
        keepsDue("all of 3 by x", false, NO_STEPS, 3, 1, 0, 1, 2);
        keepsDue("all of 2 and 2: nothing but 0 added twice", true, NO_STEPS, 2, 2, 0, 1, 2, 3);
        keepsDue("the last three of 36", false, NO_STEPS, 1, 36, 33, 34, 35);
        keepsDue("three of the last four of 36", true, NO_STEPS, 1, 36, 32, 34, 35);
    }

    /** "the sums of all its subsets are unlike, that of the empty one being the element 0". */
    private static void apart() {
        keepsDue("0 is as the empty one", false, APART, 1, 12, 0);
        keepsDue("0 and another one", false, APART, 1, 12, 0, 5);
        keepsDue("one but 0", true, APART, 1, 12, 6);
        keepsDue("5 + 7 is as the empty one", false, APART, 1, 12, 5, 7);
        keepsDue("1 and 2", true, APART, 1, 12, 1, 2);
        keepsDue("1 + 2 = 3", false, APART, 1, 12, 1, 2, 3);
        keepsDue("1, 2 and 4", true, APART, 1, 12, 1, 2, 4);
        keepsDue("1 + 2 + 9 is as the empty one", false, APART, 1, 12, 1, 2, 9);
        keepsDue("1, 2 and 8", true, APART, 1, 12, 1, 2, 8);
        keepsDue("8 sums of 8", true, APART, 1, 8, 1, 2, 4);
        keepsDue("8 sums of 7", false, APART, 1, 7, 1, 2, 4);
        keepsDue("16 sums of 16", true, APART, 1, 16, 1, 2, 4, 8);
        keepsDue("16 sums of 15", false, APART, 1, 15, 1, 2, 4, 8);
        keepsDue("32 sums of 32", true, APART, 1, 32, 1, 2, 4, 8, 16);
        keepsDue("32 sums of 31", false, APART, 1, 31, 1, 2, 4, 8, 16);
        keepsDue("64 sums of 36", false, APART, 1, 36, 1, 2, 4, 8, 16, 32);
        keepsDue("1 and 2 of 2 and 2", true, APART, 2, 2, 1, 2);
        keepsDue("1 + 2 = 3 of 2 and 2", false, APART, 2, 2, 1, 2, 3);
        keepsDue("4 + 8 by x is as the empty one", false, APART, 3, 4, 4, 8);
        keepsDue("1, 2 and 4 of 3 and 4", true, APART, 3, 4, 1, 2, 4);
    }

    private static void leastGroup() {
        keepsDue("the least group", false, FREE, 1, 1, 0);
        keepsDue("the least group", true, SIDON, 1, 1, 0);
        keepsDue("the least group", true, NO_STEPS, 1, 1, 0);
        keepsDue("the least group", false, APART, 1, 1, 0);
        int[] all = new int[36];
        for (int element = 0; element < 36; element++) {
            all[element] = element;
        }
        for (int rule = FREE; rule <= APART; rule++) {
            keepsDue("all of 36", false, rule, 6, 6, all);
        }
    }

    private static void greatestDue(String what, long want, int rule, int m, int n, long set) {
        answered("22 " + what, want, () -> house(m, n, set), house -> house.greatest(0, rule));
        answered("23 " + what, want, () -> house(m, n, set), house -> house.greatestAnew(0, rule));
    }

    /** "IllegalStateException if the set has more than 12 elements". */
    private static void greatestTwelve() {
        greatestDue("twelve, free", bits(1, 3, 5, 7, 9, 11), FREE, 1, 12, first(12));
        for (int rule = FREE; rule <= APART; rule++) {
            int by = rule;
            long want = Told.bitsOf(new Told(1, 36).greatest(Told.setOf(first(12) << 24), rule));
            greatestDue("the last twelve of 36, rule " + rule, want, rule, 1, 36, first(12) << 24);
            for (long wrong : new long[] {first(13), first(13) << 23, first(36), first(12) | bits(35)}) {
                refused("22 thirteen or more: " + wrong + ", rule " + rule, STATE, () -> house(1, 36, wrong),
                        house -> house.greatest(0, by));
                refused("23 thirteen or more: " + wrong + ", rule " + rule, STATE, () -> house(1, 36, wrong),
                        house -> house.greatestAnew(0, by));
            }
        }
        Recipe thirteen = () -> house(1, 13, first(13));
        refused("22 all of 13, no rule", INDEX, thirteen, house -> house.greatest(0, 4));
        refused("23 all of 13, no rule", INDEX, thirteen, house -> house.greatestAnew(0, 4));
    }

    /** "Returns the subset; 0 if it is the empty one." */
    private static void greatestEmpty() {
        greatestDue("0 is not free", 0, FREE, 1, 12, bits(0));
        greatestDue("0 is not apart", 0, APART, 1, 12, bits(0));
        greatestDue("0 is sidon", bits(0), SIDON, 1, 12, bits(0));
        greatestDue("0 has no steps", bits(0), NO_STEPS, 1, 12, bits(0));
        greatestDue("of the least group, free", 0, FREE, 1, 1, 1);
        greatestDue("of the least group, sidon", 1, SIDON, 1, 1, 1);
        greatestDue("one element, free", bits(35), FREE, 1, 36, bits(35));
        greatestDue("one element, sidon", bits(35), SIDON, 1, 36, bits(35));
        greatestDue("one element, no steps", bits(35), NO_STEPS, 1, 36, bits(35));
        greatestDue("one element, apart", bits(35), APART, 1, 36, bits(35));
        greatestDue("all that keeps the rule", bits(1, 3, 9, 11), FREE, 1, 12, bits(1, 3, 9, 11));
        greatestDue("all of 2 and 2", 15, NO_STEPS, 2, 2, 15);
    }

    /** "has most elements, of several the lowest as a number". */
    private static void greatestLowest() {
        greatestDue("one of two", bits(4), FREE, 1, 12, bits(4, 8));
        greatestDue("one of two, sidon", bits(0), SIDON, 1, 12, bits(0, 6));
        greatestDue("one of two, apart", bits(5), APART, 1, 12, bits(5, 7));
        greatestDue("two of three", bits(0, 3), NO_STEPS, 1, 12, bits(0, 3, 9));
        greatestDue("two of three, the lower one with the greatest", bits(0, 7), SIDON, 1, 12, bits(0, 6, 7));
        greatestDue("{1, 3} ahead of {2, 3}", bits(1, 3), FREE, 1, 12, bits(0, 1, 2, 3));
        greatestDue("two that are higher ahead of one", bits(2, 3), FREE, 1, 12, bits(0, 2, 3));
        greatestDue("three without the lowest ahead of two with it", bits(4, 9, 11), FREE, 1, 12,
                bits(2, 4, 9, 11));
    }

    /** "IllegalStateException if the group has more than 10 elements". */
    private static void winsTen() {
        for (int[] group : OF_TEN) {
            Told told = new Told(group[0], group[1]);
            for (int rule = FREE; rule <= APART; rule++) {
                int by = rule;
                String of = "24 of " + group[0] + " and " + group[1] + ", rule " + rule;
                for (long put : new long[] {0, bits(1), bits(9), bits(3, 4)}) {
                    boolean kept = told.keeps(Told.setOf(put), rule);
                    Object want = kept ? (Object) Told.bitsOf(told.wins(rule, Told.setOf(put))) : ARGUMENT;
                    answered(of + ", put " + put, want, () -> house(group[0], group[1]), h -> h.wins(by, put));
                }
            }
        }
        for (int[] group : OF_MORE) {
            Recipe recipe = () -> house(group[0], group[1]);
            int size = group[0] * group[1];
            String of = "24 of " + group[0] + " and " + group[1] + ": ";
            refused(of + "nothing put", STATE, recipe, house -> house.wins(FREE, 0));
            refused(of + "the last put", STATE, recipe, house -> house.wins(APART, bits(size - 1)));
            refused(of + "no element", ARGUMENT, recipe, house -> house.wins(FREE, bits(size)));
            refused(of + "not kept", ARGUMENT, recipe, house -> house.wins(FREE, bits(0)));
            refused(of + "not kept, all", ARGUMENT, recipe, house -> house.wins(SIDON, first(size)));
            refused(of + "no rule", INDEX, recipe, house -> house.wins(4, bits(size)));
        }
    }

    /** "put an element of the group, which is not there yet". */
    private static void winsAlready() {
        answered("24 all was put", 0L, () -> house(2, 2), house -> house.wins(NO_STEPS, 15));
        answered("24 one is left", bits(3), () -> house(2, 2), house -> house.wins(NO_STEPS, 7));
        answered("24 the first is left", bits(0), () -> house(2, 2), house -> house.wins(NO_STEPS, 14));
        answered("24 the least group, all was put", 0L, () -> house(1, 1), house -> house.wins(SIDON, 1));
        answered("24 the least group, nothing was put", 1L, () -> house(1, 1), house -> house.wins(SIDON, 0));
        answered("24 two of three, the third is left but makes steps", 0L, () -> house(1, 3),
                house -> house.wins(NO_STEPS, 3));
        answered("24 one of three was put", bits(0, 2), () -> house(1, 3), house -> house.wins(NO_STEPS, 2));
    }

    /** "Who cannot has lost", "0 if there are none". */
    private static void winsLost() {
        answered("24 the least group, nothing can be put", 0L, () -> house(1, 1), house -> house.wins(FREE, 0));
        answered("24 the least group, nothing can be put, apart", 0L, () -> house(1, 1),
                house -> house.wins(APART, 0));
        answered("24 of 2: 1 ends it", bits(1), () -> house(1, 2), house -> house.wins(FREE, 0));
        answered("24 of 2: it is over", 0L, () -> house(1, 2), house -> house.wins(FREE, 2));
        answered("24 of 3: each ends it but 0", bits(1, 2), () -> house(1, 3), house -> house.wins(FREE, 0));
        answered("24 of 3: it is over", 0L, () -> house(1, 3), house -> house.wins(FREE, 4));
        answered("24 of 5: 1 is followed by 4", bits(4), () -> house(1, 5), house -> house.wins(FREE, bits(1)));
        answered("24 of 5: 2 is followed by 3", bits(3), () -> house(1, 5), house -> house.wins(FREE, bits(2)));
        answered("24 of 5: it is over behind 1 and 4", 0L, () -> house(1, 5),
                house -> house.wins(FREE, bits(1, 4)));
    }

    /** "so that the other one will have lost, whatever that one does". */
    private static void winsWhatever() {
        answered("24 of 5: each is followed by another", 0L, () -> house(1, 5), house -> house.wins(FREE, 0));
        answered("24 of 2: the other one has the last", 0L, () -> house(1, 2), house -> house.wins(NO_STEPS, 0));
        answered("24 of 2: the last", bits(0), () -> house(1, 2), house -> house.wins(NO_STEPS, 2));
        answered("24 of 2 and 2: four in turn", 0L, () -> house(2, 2), house -> house.wins(NO_STEPS, 0));
        answered("24 of 2 and 2: three in turn", bits(1, 2, 3), () -> house(2, 2), house -> house.wins(NO_STEPS, 1));
        answered("24 of 2 and 2: two in turn", 0L, () -> house(2, 2), house -> house.wins(NO_STEPS, 3));
        answered("24 asked again", 0L, () -> house(2, 2), house -> {
            house.wins(NO_STEPS, 1);
            house.wins(FREE, 0);
            return house.wins(NO_STEPS, 0);
        });
    }

    /** A game of a great group leaves nothing behind for that of a smaller one, nor that of one rule for another. */
    private static void winsBehindWins() {
        for (int rule = FREE; rule <= APART; rule++) {
            Sumsetry house = new Sumsetry();
            for (int size = 10; size >= 1; size--) {
                Told told = new Told(1, size);
                house.group(1, size);
                for (int other = FREE; other <= APART; other++) {
                    int by = (rule + other) % 4;
                    due("24 of " + size + " behind more, rule " + by, Told.bitsOf(told.wins(by, Told.setOf(0))),
                            () -> house.wins(by, 0));
                }
            }
        }
    }

    /** "IllegalArgumentException if elements has what is no element, or does not keep the rule". */
    private static void winsElements() {
        for (int size : new int[] {1, 2, 5, 9, 10}) {
            Recipe recipe = () -> house(1, size);
            for (int rule = FREE; rule <= APART; rule++) {
                int by = rule;
                for (long wrong : new long[] {1L << size, 1L << size | 2, 1L << 32, 1L << 36, 1L << 62,
                    Long.MIN_VALUE, Long.MIN_VALUE | 2, -1, Long.MAX_VALUE}) {
                    refused("24 of " + size + ", rule " + rule + ", put " + wrong, ARGUMENT, recipe,
                            house -> house.wins(by, wrong));
                }
            }
        }
        answered("24 the last element was put", 0L, () -> house(1, 3), house -> house.wins(FREE, bits(2)));
        refused("24 not free: 0", ARGUMENT, () -> house(1, 5), house -> house.wins(FREE, 1));
        refused("24 not free: 1 and 2", ARGUMENT, () -> house(1, 5), house -> house.wins(FREE, bits(1, 2)));
        refused("24 not sidon: 0, 1 and 2", ARGUMENT, () -> house(1, 5), house -> house.wins(SIDON, bits(0, 1, 2)));
        refused("24 steps: 0, 1 and 2", ARGUMENT, () -> house(1, 5), house -> house.wins(NO_STEPS, bits(0, 1, 2)));
        refused("24 not apart: 0", ARGUMENT, () -> house(1, 5), house -> house.wins(APART, 1));
        refused("24 not apart: 1 and 4", ARGUMENT, () -> house(1, 5), house -> house.wins(APART, bits(1, 4)));
        refused("24 all of 10", ARGUMENT, () -> house(1, 10), house -> house.wins(SIDON, first(10)));
    }

    /** "IndexOutOfBoundsException if there is no such set or rule", "rule: FREE to APART". */
    private static void noSuchRules() {
        Recipe recipe = () -> house(1, 10, bits(1), first(10));
        long[] want = {bits(1, 3, 5, 7, 9), bits(0, 1, 3), bits(0, 1, 3, 4), bits(1, 2, 4)};
        for (int rule = FREE; rule <= APART; rule++) {
            int by = rule;
            answered("21 rule " + rule, true, recipe, house -> house.keeps(0, by));
            answered("21 rule " + rule + " of all", false, recipe, house -> house.keeps(1, by));
            answered("22 rule " + rule, want[rule], recipe, house -> house.greatest(1, by));
            answered("23 rule " + rule, want[rule], recipe, house -> house.greatestAnew(1, by));
        }
        for (int wrong : NO_RULES) {
            refused("21 no rule " + wrong, INDEX, recipe, house -> house.keeps(0, wrong));
            refused("22 no rule " + wrong, INDEX, recipe, house -> house.greatest(0, wrong));
            refused("23 no rule " + wrong, INDEX, recipe, house -> house.greatestAnew(0, wrong));
            refused("24 no rule " + wrong, INDEX, recipe, house -> house.wins(wrong, 0));
            refused("24 no rule " + wrong + ", no element", INDEX, recipe, house -> house.wins(wrong, -1));
        }
    }

    private static void noSuchSets() {
        Recipe recipe = () -> house(1, 12, bits(0), bits(1, 2), bits(5));
        answered("21 the last set", true, recipe, house -> house.keeps(2, FREE));
        answered("22 the last set", bits(5), recipe, house -> house.greatest(2, FREE));
        answered("23 the last set", bits(5), recipe, house -> house.greatestAnew(2, FREE));
        for (int wrong : new int[] {LOWEST, -1, 3, 4, 29, 30, 31, HIGHEST}) {
            refused("21 no set " + wrong, INDEX, recipe, house -> house.keeps(wrong, FREE));
            refused("22 no set " + wrong, INDEX, recipe, house -> house.greatest(wrong, SIDON));
            refused("23 no set " + wrong, INDEX, recipe, house -> house.greatestAnew(wrong, APART));
        }
    }
}
