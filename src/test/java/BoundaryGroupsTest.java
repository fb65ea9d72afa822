import java.util.Arrays;

/**
 * The sentences that name a boundary case in "What it is" and "Groups, sets", and in promises 1 to 7: the last that
 * is taken, the first that is refused, what is empty, what is full, what comes round again.
 */
public final class BoundaryGroupsTest extends Answers {
    private static final int[] SIZES = {1, 2, 3, 31, 32, 33, 35, 36};

    public static void main(String[] args) {
        lastCall();
        newObject();
        twoHouses();
        groupSides();
        groupBeginsAnew();
        groupForgets();
        groupBehindGroup();
        addComesRound();
        addLastElement();
        setBits();
        setEmpty();
        thirtySets();
        thirtiethSet();
        combineHow();
        combineEmpty();
        combineSameSet();
        combineComesRound();
        combineLastSet();
        moveTimes();
        moveComesRound();
        moveLastSetAndElement();
        elementsLastSet();
        REPORT.end("BoundaryGroupsTest");
    }

    /** "An object is used for at most 512 calls": the 512th answers as any other one. */
    private static void lastCall() {
        Sumsetry asked = fullOfSets(1, 36, bits(0, 35));
        for (int call = 32; call < 512; call++) {
            asked.elements(0);
        }
        due("512 calls: the last, asked", 1L, () -> asked.elements(29));
        Sumsetry anew = new Sumsetry();
        for (int call = 1; call < 508; call += 3) {
            anew.group(call % 6 + 1, 6);
            anew.put(5);
            anew.set(bits(5));
        }
        due("512 calls: groups, m", 2, () -> anew.of(0));
        due("512 calls: groups, n", 6, () -> anew.of(1));
        due("512 calls: groups, a set", 1, () -> anew.set(1));
        due("512 calls: groups, an element put", 2, () -> anew.put(1));
        due("512 calls: the last, behind groups", 2, () -> anew.of(2));
        Sumsetry wiped = new Sumsetry();
        for (int call = 2; call < 512; call += 2) {
            wiped.put(0);
            wiped.wipe();
        }
        due("512 calls: put", 1, () -> wiped.put(0));
        due("512 calls: the last, a wipe", 1, () -> wiped.wipe());
        Sumsetry refusing = new Sumsetry();
        for (int call = 1; call < 512; call++) {
            due("512 calls: refused, the number " + call, ARGUMENT, () -> refusing.set(0));
        }
        due("512 calls: the last, behind what was refused", 0, () -> refusing.set(1));
        Sumsetry searching = house(1, 12, first(12));
        for (int call = 3; call < 512; call++) {
            searching.greatestAnew(0, Sumsetry.FREE);
        }
        due("512 calls: the last, a search", bits(1, 3, 5, 7, 9, 11), () -> searching.greatestAnew(0, Sumsetry.FREE));
    }

    /** "Creates a house with the group of 1 and 1, without sets; the row is empty." */
    private static void newObject() {
        stateDue("1 new", new Sumsetry(), 1, 1, 0, 0, 0);
        answered("1 the group has the element 0", 0, Sumsetry::new, house -> house.add(0, 0, true));
        answered("1 less 0 is 0", 0, Sumsetry::new, house -> house.add(0, 0, false));
        refused("1 the group has no element 1", INDEX, Sumsetry::new, house -> house.add(0, 1, true));
        refused("1 nor is there a set with it", ARGUMENT, Sumsetry::new, house -> house.set(2));
        refused("1 without sets", INDEX, Sumsetry::new, house -> house.elements(0));
        answered("1 the first set is the number 0", 0, Sumsetry::new, house -> house.set(1));
        answered("1 the row is empty, wiped", 0, Sumsetry::new, Sumsetry::wipe);
        answered("1 the row is empty, no part", 0, Sumsetry::new, Sumsetry::zero);
        answered("1 the row is empty, one put", 1, Sumsetry::new, house -> house.put(0));
        refused("1 no root was told", STATE, () -> house(1, 1, 1), house -> house.transform(0, 0));
    }

    /** What a house has is its own. */
    private static void twoHouses() {
        Sumsetry one = rooted(6, 7, 3, first(6), 1, 2);
        one.put(5);
        Sumsetry other = new Sumsetry();
        stateDue("1 new beside another one", other, 1, 1, 0, 0, 0);
        other.group(2, 4);
        other.set(bits(7));
        other.put(7);
        stateDue("1 the other one stays", one, 1, 6, 3, 1, 7);
        due("1 its sets stay", first(6), () -> one.elements(0));
        due("1 its group stays", 0, () -> one.add(5, 1, true));
        due("1 its row stays", 0, () -> one.zero());
        due("1 its row goes on", 2, () -> one.put(1));
        due("1 its row adds up", 3, () -> one.zero());
    }

    /** "m: 1 to 36, n: 1 to 36", "IllegalArgumentException if m or n is out of range, or they make more than 36". */
    private static void groupSides() {
        Recipe recipe = () -> rooted(6, 7, 3, bits(0, 1), first(6));
        for (int m = -2; m <= 39; m++) {
            for (int n = -2; n <= 39; n++) {
                int x = m;
                int y = n;
                String call = "2 group(" + m + ", " + n + ")";
                if (m >= 1 && n >= 1 && m * n <= 36) {
                    answered(call, m * n, recipe, house -> house.group(x, y));
                } else {
                    refused(call, ARGUMENT, recipe, house -> house.group(x, y));
                }
            }
        }
        int[][] far = {{LOWEST, LOWEST}, {HIGHEST, HIGHEST}, {1, HIGHEST}, {HIGHEST, 1}, {1, LOWEST}, {LOWEST, 1},
            {65536, 65536}, {1 << 16, 1 << 15}, {-6, -6}, {-36, -1}, {1 << 30, 4}, {715827883, 6}};
        for (int[] sides : far) {
            refused("2 group(" + sides[0] + ", " + sides[1] + ")", ARGUMENT, recipe,
                    house -> house.group(sides[0], sides[1]));
        }
    }

    /** "Begins anew with a group: sets and the root are gone, the row is empty." */
    private static void groupBeginsAnew() {
        Recipe full = () -> {
            Sumsetry house = fullOfSets(1, 6, first(6));
            house.root(7, 3);
            while (house.of(3) < 12) {
                house.put(1);
            }
            house.group(1, 6);
            return house;
        };
        stateDue("2 the same group anew", full.made(), 1, 6, 0, 0, 0);
        refused("2 anew: the first set is gone", INDEX, full, house -> house.elements(0));
        refused("2 anew: the last set is gone", INDEX, full, house -> house.combine(Sumsetry.SUM, 29, 29));
        answered("2 anew: no part of the row", 0, full, Sumsetry::zero);
        answered("2 anew: nothing to wipe", 0, full, Sumsetry::wipe);
        Sumsetry house = full.made();
        for (int number = 0; number < 30; number++) {
            int want = number;
            due("2 anew: the set " + number, want, () -> house.set(2));
        }
        due("2 anew: the sets are full again", STATE, () -> house.set(2));
        for (int count = 1; count <= 12; count++) {
            int want = count;
            due("2 anew: put, then " + count, want, () -> house.put(3));
        }
        due("2 anew: the row is full again", STATE, () -> house.put(3));
        due("2 anew: the root is gone", STATE, () -> house.transform(0, 0));
        due("2 anew: gone for ways too", STATE, () -> house.waysAnew(0, 0, 0));
        due("2 anew: a part of the new row", 3, () -> house.zero());
        rootDue("2 anew: a root is told again", "nothing", house, 13, 4);
        due("2 anew: by the new root", 4, () -> house.transform(0, 1));
    }

    /** From a great group to a small one and back: nothing of the other one is left. */
    private static void groupForgets() {
        Sumsetry house = house(1, 36, first(36), bits(35));
        house.put(35);
        due("2 smaller", 2, () -> house.group(2, 1));
        due("2 smaller: the last element", 0, () -> house.add(1, 1, true));
        due("2 smaller: no element 2", INDEX, () -> house.add(2, 0, true));
        due("2 smaller: not in a set", ARGUMENT, () -> house.set(4));
        due("2 smaller: not put", INDEX, () -> house.put(2));
        due("2 smaller: all", 0, () -> house.set(3));
        due("2 greater", 36, () -> house.group(6, 6));
        due("2 greater: less the last element", 7, () -> house.add(0, 35, false));
        due("2 greater: the last element alone", 0, () -> house.set(bits(35)));
        due("2 greater: with itself", 1, () -> house.combine(Sumsetry.SUM, 0, 0));
        due("2 greater: 28 is 4 and 4", bits(28), () -> house.elements(1));
        due("2 turned", 36, () -> house.group(2, 18));
        due("2 of 2 and 18: add(1, 1)", 2, () -> house.add(1, 1, true));
        due("2 turned again", 36, () -> house.group(18, 2));
        due("2 of 18 and 2: add(1, 1)", 0, () -> house.add(1, 1, true));
    }

    /** Behind any other group, sums, differences and steps are those of the new one. */
    private static void groupBehindGroup() {
        int[][] groups = {{1, 1}, {1, 36}, {36, 1}, {6, 6}, {2, 18}, {18, 2}, {3, 4}, {4, 3}, {1, 12}, {2, 2}};
        for (int[] old : groups) {
            for (int[] now : groups) {
                Sumsetry house = house(old[0], old[1], first(old[0] * old[1]));
                house.group(now[0], now[1]);
                int size = now[0] * now[1];
                String of = "2 of " + now[0] + " and " + now[1] + " behind " + old[0] + " and " + old[1] + ": ";
                Told told = new Told(now[0], now[1]);
                long some = bits(size - 1, size / 2, size / 3);
                long low = first(Math.min(size, 3));
                due(of + "set", 0, () -> house.set(some));
                due(of + "another set", 1, () -> house.set(low));
                for (int how = Sumsetry.SUM; how <= Sumsetry.DIFFERENCE; how++) {
                    int by = how;
                    long want = Told.bitsOf(told.combine(how, Told.setOf(some), Told.setOf(some)));
                    due(of + "combine " + how, want, () -> house.elements(house.combine(by, 0, 0)));
                }
                for (int rule = Sumsetry.FREE; rule <= Sumsetry.APART; rule++) {
                    int by = rule;
                    due(of + "keeps " + rule, told.keeps(Told.setOf(some), rule), () -> house.keeps(0, by));
                    due(of + "the other keeps " + rule, told.keeps(Told.setOf(low), rule), () -> house.keeps(1, by));
                }
            }
        }
    }

    /** "adding their x, modulo m, and their y, modulo n", "to subtract an element is to add less it". */
    private static void addComesRound() {
        // of 3 and 4: x is 0 to 2, y is 0 to 3
        int[][] sums = {{0, 0, 0}, {2, 1, 3}, {3, 1, 0}, {3, 3, 2}, {4, 4, 8}, {8, 4, 0}, {8, 8, 4}, {7, 1, 4},
            {11, 1, 8}, {11, 4, 3}, {11, 5, 0}, {11, 11, 6}, {11, 0, 11}, {0, 11, 11}, {6, 6, 8}};
        for (int[] one : sums) {
            answered("3 " + one[0] + " and " + one[1], one[2], () -> house(3, 4), h -> h.add(one[0], one[1], true));
        }
        int[][] differences = {{0, 0, 0}, {11, 11, 0}, {0, 1, 3}, {0, 2, 2}, {0, 3, 1}, {0, 4, 8}, {0, 8, 4},
            {0, 5, 11}, {0, 11, 5}, {4, 1, 7}, {3, 11, 4}, {11, 0, 11}, {1, 4, 9}};
        for (int[] one : differences) {
            answered("3 " + one[0] + " less " + one[1], one[2], () -> house(3, 4),
                    h -> h.add(one[0], one[1], false));
        }
        Recipe[] rounds = {() -> house(1, 36), () -> house(36, 1)};
        for (Recipe round : rounds) {
            answered("3 of 36: the last before it comes round", 35, round, house -> house.add(17, 18, true));
            answered("3 of 36: the first that comes round", 0, round, house -> house.add(18, 18, true));
            answered("3 of 36: the last with 1", 0, round, house -> house.add(35, 1, true));
            answered("3 of 36: the last twice", 34, round, house -> house.add(35, 35, true));
            answered("3 of 36: less the last", 1, round, house -> house.add(0, 35, false));
            answered("3 of 36: less the middle", 18, round, house -> house.add(0, 18, false));
            answered("3 of 36: the last less 0", 35, round, house -> house.add(35, 0, false));
        }
    }

    /** "IndexOutOfBoundsException if there is no such element". */
    private static void addLastElement() {
        for (int size : SIZES) {
            Recipe recipe = () -> house(1, size);
            for (boolean isSum : new boolean[] {true, false}) {
                String of = "3 of " + size + (isSum ? ", add: " : ", subtract: ");
                answered(of + "the last one with 0", size - 1, recipe, house -> house.add(size - 1, 0, isSum));
                answered(of + "0 with 0", 0, recipe, house -> house.add(0, 0, isSum));
                for (int wrong : new int[] {LOWEST, -36, -1, size, 36, 37, HIGHEST}) {
                    refused(of + wrong + " ahead", INDEX, recipe, house -> house.add(wrong, 0, isSum));
                    refused(of + wrong + " behind", INDEX, recipe, house -> house.add(0, wrong, isSum));
                }
                refused(of + "none of both", INDEX, recipe, house -> house.add(size, -1, isSum));
            }
        }
    }

    /** "its elements as bits", "IllegalArgumentException if it is empty, or has what is no element". */
    private static void setBits() {
        for (int size : SIZES) {
            Recipe recipe = () -> house(1, size);
            String of = "4 of " + size + ": ";
            for (long bits : new long[] {1, 1L << size - 1, first(size), 1 | 1L << size - 1}) {
                answered(of + "set(" + bits + ")", bits, recipe, house -> house.elements(house.set(bits)));
            }
            long[] wrong = {1L << size, 1L << size | 1, first(size + 1), 1L << 36, 1L << 37, 1L << 62, Long.MAX_VALUE,
                Long.MIN_VALUE, Long.MIN_VALUE | 1, -1, -2};
            for (long bits : wrong) {
                refused(of + "set(" + bits + ")", ARGUMENT, recipe, house -> house.set(bits));
            }
        }
        refused("4 of 6 and 6: beyond the last", ARGUMENT, () -> house(6, 6), house -> house.set(1L << 36));
        answered("4 of 6 and 6: the last", 0, () -> house(6, 6), house -> house.set(1L << 35));
        refused("4 of 5 and 7: beyond the last", ARGUMENT, () -> house(5, 7), house -> house.set(1L << 35));
        answered("4 of 5 and 7: the last", 0, () -> house(5, 7), house -> house.set(1L << 34));
    }

    /** "none of them is empty". */
    private static void setEmpty() {
        refused("4 the empty set", ARGUMENT, Sumsetry::new, house -> house.set(0));
        refused("4 the empty set behind another one", ARGUMENT, () -> house(1, 5, 3), house -> house.set(0));
        refused("4 the empty set, with 30", ARGUMENT, () -> fullOfSets(1, 5), house -> house.set(0));
        refused("4 what is no element, with 30", ARGUMENT, () -> fullOfSets(1, 5), house -> house.set(32));
    }

    /** "Sets are numbered from 0, at most 30", "IllegalStateException if there are 30". */
    private static void thirtySets() {
        Sumsetry house = house(1, 5);
        for (int number = 0; number < 30; number++) {
            int want = number;
            due("4 before: no set " + number, INDEX, () -> house.elements(want));
            due("4 the number " + number, want, () -> house.set(number(want)));
            due("4 so many", want + 1, () -> house.of(2));
        }
        due("4 the 31st", STATE, () -> house.set(1));
        due("4 the 31st, a set that is there", STATE, () -> house.set(number(29)));
        due("4 still 30", 30, () -> house.of(2));
        for (int number = 0; number < 30; number++) {
            int asked = number;
            due("4 the set " + number, number(asked), () -> house.elements(asked));
        }
        due("4 no set 30", INDEX, () -> house.elements(30));
        refused("4 with 30", STATE, () -> fullOfSets(1, 5, 3, 5), full -> full.set(7));
        answered("4 the same set twice has two numbers", 1, () -> house(1, 5, 3), same -> same.set(3));
    }

    private static long number(int number) {
        return number + 1;
    }

    /** The 30th set and the 31st, of each call that makes one. */
    private static void thirtiethSet() {
        long[] sets = new long[29];
        Arrays.fill(sets, bits(1, 4));
        Recipe room = () -> house(1, 5, sets);
        Recipe full = () -> fullOfSets(1, 5, sets);
        answered("4 set, the 30th", 29, room, house -> house.set(1));
        answered("5 combine, the 30th", 29, room, house -> house.combine(Sumsetry.SUM, 0, 28));
        answered("5 combine, the 30th made", bits(0, 2, 3), room,
                house -> house.elements(house.combine(Sumsetry.SUM, 0, 28)));
        answered("6 move, the 30th", 29, room, house -> house.move(28, 2, 4));
        answered("6 move, the 30th made", bits(1, 2), room, house -> house.elements(house.move(28, 2, 4)));
        for (int how = Sumsetry.SUM; how <= Sumsetry.WITHOUT; how++) {
            int asked = how;
            refused("5 combine(" + how + "), the 31st", STATE, full, house -> house.combine(asked, 0, 29));
        }
        refused("5 combine, the 31st, and it would be empty", STATE, full,
                house -> house.combine(Sumsetry.WITHOUT, 0, 0));
        refused("5 combine, the 31st, no way", ARGUMENT, full, house -> house.combine(6, 0, 29));
        refused("5 combine, the 31st, no set", INDEX, full, house -> house.combine(6, 0, 30));
        refused("6 move, the 31st", STATE, full, house -> house.move(29, 1, 0));
        refused("6 move, the 31st, times out of range", ARGUMENT, full, house -> house.move(29, 101, 0));
        refused("6 move, the 31st, no element", INDEX, full, house -> house.move(29, 101, 5));
    }

    /** "how: SUM to WITHOUT", "IllegalArgumentException if how is out of range". */
    private static void combineHow() {
        Recipe recipe = () -> house(1, 10, bits(0, 1, 4), bits(1, 7));
        long[] want = {bits(1, 2, 5, 7, 8), bits(0, 3, 4, 7, 9), bits(1, 5, 7, 8), bits(1), bits(0, 1, 4, 7),
            bits(0, 4)};
        for (int how = 0; how <= 5; how++) {
            int asked = how;
            answered("5 combine(" + how + ") has a number", 2, recipe, house -> house.combine(asked, 0, 1));
            answered("5 combine(" + how + ") makes", want[how], recipe,
                    house -> house.elements(house.combine(asked, 0, 1)));
        }
        for (int wrong : new int[] {LOWEST, -2, -1, 6, 7, HIGHEST}) {
            refused("5 combine(" + wrong + ")", ARGUMENT, recipe, house -> house.combine(wrong, 0, 1));
            refused("5 combine(" + wrong + ") of no set", INDEX, recipe, house -> house.combine(wrong, 0, 2));
        }
    }

    /** "IllegalStateException if it would be empty". */
    private static void combineEmpty() {
        Recipe recipe = () -> house(1, 10, bits(0, 1), bits(5), bits(0, 1, 2), bits(6));
        refused("5 nothing in both", STATE, recipe, house -> house.combine(Sumsetry.MEET, 0, 1));
        refused("5 nothing left", STATE, recipe, house -> house.combine(Sumsetry.WITHOUT, 0, 2));
        answered("5 one left", bits(2), recipe, house -> house.elements(house.combine(Sumsetry.WITHOUT, 2, 0)));
        refused("5 nothing left of itself", STATE, recipe, house -> house.combine(Sumsetry.WITHOUT, 2, 2));
        refused("5 no unlike elements", STATE, recipe, house -> house.combine(Sumsetry.RESTRICTED, 1, 1));
        answered("5 one pair of unlike elements", bits(1), recipe,
                house -> house.elements(house.combine(Sumsetry.RESTRICTED, 1, 3)));
        Recipe like = () -> house(1, 10, bits(5), bits(5));
        refused("5 no unlike elements, of two sets", STATE, like, house -> house.combine(Sumsetry.RESTRICTED, 0, 1));
        Recipe least = () -> house(1, 1, 1);
        answered("5 the least group: SUM", 1L, least, house -> house.elements(house.combine(Sumsetry.SUM, 0, 0)));
        refused("5 the least group: RESTRICTED", STATE, least, house -> house.combine(Sumsetry.RESTRICTED, 0, 0));
        refused("5 the least group: WITHOUT", STATE, least, house -> house.combine(Sumsetry.WITHOUT, 0, 0));
    }

    /** "Below A and B are sets, which may be the same one." */
    private static void combineSameSet() {
        Recipe recipe = () -> house(1, 12, bits(0, 1, 5));
        long[] want = {bits(0, 1, 2, 5, 6, 10), bits(0, 1, 4, 5, 7, 8, 11), bits(1, 5, 6), bits(0, 1, 5),
            bits(0, 1, 5)};
        for (int how = Sumsetry.SUM; how <= Sumsetry.JOIN; how++) {
            int asked = how;
            answered("5 with itself, combine(" + how + ")", want[how], recipe,
                    house -> house.elements(house.combine(asked, 0, 0)));
        }
        refused("5 with itself, WITHOUT", STATE, recipe, house -> house.combine(Sumsetry.WITHOUT, 0, 0));
        Recipe none = () -> house(1, 12, bits(0), bits(1, 2));
        answered("5 0 with 1 and 2, unlike", bits(1, 2), none,
                house -> house.elements(house.combine(Sumsetry.RESTRICTED, 0, 1)));
        answered("5 1 and 2 with 0, unlike", bits(1, 2), none,
                house -> house.elements(house.combine(Sumsetry.RESTRICTED, 1, 0)));
        Recipe pair = () -> house(1, 12, bits(3, 9));
        answered("5 a pair with itself, unlike", bits(0), pair,
                house -> house.elements(house.combine(Sumsetry.RESTRICTED, 0, 0)));
    }

    /** Sums and differences that come round, by x alone, by y alone and by both. */
    private static void combineComesRound() {
        Recipe recipe = () -> house(3, 4, bits(11), bits(1, 4, 5), first(12));
        answered("5 the last element moves 1, 4 and 5", bits(8, 3, 0), recipe,
                house -> house.elements(house.combine(Sumsetry.SUM, 0, 1)));
        answered("5 1, 4 and 5 less the last element", bits(6, 9, 10), recipe,
                house -> house.elements(house.combine(Sumsetry.DIFFERENCE, 1, 0)));
        answered("5 the last element less 1, 4 and 5", bits(10, 7, 6), recipe,
                house -> house.elements(house.combine(Sumsetry.DIFFERENCE, 0, 1)));
        answered("5 all and one is all", first(12), recipe,
                house -> house.elements(house.combine(Sumsetry.SUM, 2, 0)));
        answered("5 all and one unlike it", first(12) & ~bits(6), recipe,
                house -> house.elements(house.combine(Sumsetry.RESTRICTED, 2, 0)));
        Recipe wide = () -> house(1, 36, bits(35), first(36));
        answered("5 of 36: the last twice", bits(34), wide,
                house -> house.elements(house.combine(Sumsetry.SUM, 0, 0)));
        answered("5 of 36: the last less itself", bits(0), wide,
                house -> house.elements(house.combine(Sumsetry.DIFFERENCE, 0, 0)));
        answered("5 of 36: all with all", first(36), wide,
                house -> house.elements(house.combine(Sumsetry.SUM, 1, 1)));
        answered("5 of 36: all without the last", first(35), wide,
                house -> house.elements(house.combine(Sumsetry.WITHOUT, 1, 0)));
    }

    /** "IndexOutOfBoundsException if there is no such set". */
    private static void combineLastSet() {
        Recipe recipe = () -> house(1, 10, bits(0), bits(1), bits(2));
        answered("5 the last set behind", bits(2), recipe,
                house -> house.elements(house.combine(Sumsetry.SUM, 0, 2)));
        answered("5 the last set ahead", bits(2), recipe,
                house -> house.elements(house.combine(Sumsetry.DIFFERENCE, 2, 0)));
        for (int wrong : new int[] {LOWEST, -1, 3, 29, 30, 31, HIGHEST}) {
            refused("5 no set " + wrong + " ahead", INDEX, recipe, house -> house.combine(0, wrong, 0));
            refused("5 no set " + wrong + " behind", INDEX, recipe, house -> house.combine(0, 0, wrong));
        }
    }

    /** "times: -100 to 100", "0 for none, and of a number below 0 that many of less it". */
    private static void moveTimes() {
        Recipe recipe = () -> house(1, 7, bits(1, 2));
        int[][] want = {{-100, 5, 3}, {-99, 6, 5}, {-8, 6, 5}, {-7, 0, 0}, {-2, 5, 3}, {-1, 6, 5}, {0, 0, 0},
            {1, 1, 2}, {2, 2, 4}, {6, 6, 5}, {7, 0, 0}, {8, 1, 2}, {99, 1, 2}, {100, 2, 4}};
        for (int[] one : want) {
            answered("6 move(0, " + one[0] + ", 0)", bits(one[1], one[2]), recipe,
                    house -> house.elements(house.move(0, one[0], 0)));
        }
        for (int wrong : new int[] {LOWEST, -102, -101, 101, 102, HIGHEST}) {
            refused("6 move(0, " + wrong + ", 0)", ARGUMENT, recipe, house -> house.move(0, wrong, 0));
            refused("6 move(0, " + wrong + ", 7)", INDEX, recipe, house -> house.move(0, wrong, 7));
            refused("6 move(1, " + wrong + ", 0)", INDEX, recipe, house -> house.move(1, wrong, 0));
        }
    }

    /** "A set has elements of the group, each once", and x and y come round each by itself. */
    private static void moveComesRound() {
        Recipe recipe = () -> house(3, 4, bits(1, 4, 11), first(12));
        answered("6 no times: the element alone", bits(11), recipe, house -> house.elements(house.move(1, 0, 11)));
        for (int times : new int[] {-100, -1, 0, 1, 100}) {
            answered("6 0 alone, so often: " + times, bits(11), () -> house(3, 4, 1),
                    house -> house.elements(house.move(0, times, 11)));
        }
        answered("6 once, with 0: the set", bits(1, 4, 11), recipe, house -> house.elements(house.move(0, 1, 0)));
        answered("6 once, with the last", bits(8, 3, 6), recipe, house -> house.elements(house.move(0, 1, 11)));
        answered("6 less once, with 0", bits(3, 8, 5), recipe, house -> house.elements(house.move(0, -1, 0)));
        answered("6 three times: x is gone", bits(3, 0, 1), recipe, house -> house.elements(house.move(0, 3, 0)));
        answered("6 four times: y is gone", bits(0, 4, 8), recipe, house -> house.elements(house.move(1, 4, 0)));
        answered("6 twice, then 5: each once", bits(5, 7, 9, 11, 1, 3), recipe,
                house -> house.elements(house.move(1, 2, 5)));
        answered("6 twelve times: 0 alone", bits(0), recipe, house -> house.elements(house.move(1, 12, 0)));
        answered("6 thirteen times: the set", bits(1, 4, 11), recipe, house -> house.elements(house.move(0, 13, 0)));
        answered("6 a hundred times: y is gone, x stays", bits(0, 4, 8), recipe,
                house -> house.elements(house.move(0, 100, 0)));
        answered("6 less ninety-nine times: x is gone", bits(1, 0, 3), recipe,
                house -> house.elements(house.move(0, -99, 0)));
        answered("6 the set moved is left", bits(1, 4, 11), recipe, house -> {
            house.move(0, 2, 1);
            return house.elements(0);
        });
    }

    /** "IndexOutOfBoundsException if there is no such set or element". */
    private static void moveLastSetAndElement() {
        Recipe recipe = () -> house(1, 7, bits(1, 2), bits(3));
        answered("6 the last set and element", bits(2), recipe, house -> house.elements(house.move(1, 1, 6)));
        answered("6 the first set and element", bits(1, 2), recipe, house -> house.elements(house.move(0, 1, 0)));
        for (int wrong : new int[] {LOWEST, -1, 2, 30, HIGHEST}) {
            refused("6 no set " + wrong, INDEX, recipe, house -> house.move(wrong, 1, 0));
        }
        for (int wrong : new int[] {LOWEST, -1, 7, 36, HIGHEST}) {
            refused("6 no element " + wrong, INDEX, recipe, house -> house.move(0, 1, wrong));
        }
    }

    /** "Returns a set. IndexOutOfBoundsException if there is no such set". */
    private static void elementsLastSet() {
        Recipe recipe = () -> house(4, 9, 1, first(36), 1L << 35);
        answered("7 the first set", 1L, recipe, house -> house.elements(0));
        answered("7 all of 36", first(36), recipe, house -> house.elements(1));
        answered("7 the last set, the last element", 1L << 35, recipe, house -> house.elements(2));
        for (int wrong : new int[] {LOWEST, -1, 3, 29, 30, 31, HIGHEST}) {
            refused("7 no set " + wrong, INDEX, recipe, house -> house.elements(wrong));
        }
        answered("7 the 30th set", 1L, () -> fullOfSets(1, 2), house -> house.elements(29));
        refused("7 no 31st set", INDEX, () -> fullOfSets(1, 2), house -> house.elements(30));
    }
}
