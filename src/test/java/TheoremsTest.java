/**
 * What is known of sums in every group, held against the answers for great groups, so that no second telling of the
 * terms is needed: what Kneser, Ruzsa and Olson showed, and that which does not change when a set is moved.
 */
public final class TheoremsTest extends Answers {
    private static final int[][] GROUPS = {{1, 36}, {36, 1}, {6, 6}, {4, 9}, {9, 4}, {2, 18}, {18, 2}, {3, 12},
        {12, 3}, {1, 31}, {5, 7}, {4, 8}, {8, 4}, {2, 16}, {5, 5}, {3, 9}, {1, 24}, {2, 6}, {1, 13}};
    private static final int ROUNDS = 60;

    private final int m;
    private final int n;
    private final int size;
    private String of;
    private Sumsetry house;
    private int one;
    private int other;
    private int third;

    private TheoremsTest(int m, int n) {
        this.m = m;
        this.n = n;
        size = m * n;
    }

    public static void main(String[] args) {
        for (int[] group : GROUPS) {
            TheoremsTest test = new TheoremsTest(group[0], group[1]);
            for (int round = 0; round < ROUNDS; round++) {
                test.begin(round);
                test.waysAddUp();
                test.energies();
                test.smallSums();
                test.covers();
                test.orders();
                test.begin(round);
                test.moved();
                test.rules();
            }
            test.rows();
        }
        REPORT.end("TheoremsTest");
    }

    /** Three sets, drawn dense or thin by turns, so that stabilizers of more than 0 come too. */
    private void begin(int round) {
        house = house(m, n, drawn(1 + round % 4), drawn(1 + round % 3), drawn(1 + round % 5));
        if (round % 6 == 5) {
            house.set(house.stabilizer(0) | 1);
            house.combine(Sumsetry.SUM, 1, 3);
        }
        one = 0;
        other = house.of(2) == 5 ? 4 : 1;
        third = 2;
        of = " of " + m + " and " + n + ": " + house.elements(one) + ", " + house.elements(other) + ", "
                + house.elements(third);
    }

    private long drawn(int thin) {
        long made = 1L << next(size);
        for (int element = 0; element < size; element++) {
            made |= next(2 * thin) == 0 ? 1L << element : 0;
        }
        return made;
    }

    private long bitsOf(int set) {
        return house.elements(set);
    }

    private int count(int set) {
        return Long.bitCount(house.elements(set));
    }

    private int made(int how, int a, int b) {
        return house.combine(how, a, b);
    }

    private void holds(String what, boolean answer) {
        due(what + of, true, () -> answer);
    }

    /** Each pair has one sum; who has at least one way is in SUM, and the levels add up to the pairs. */
    private void waysAddUp() {
        int pairs = 0;
        int levels = 0;
        for (int element = 0; element < size; element++) {
            pairs += house.ways(one, other, element);
        }
        for (int least = 1; least <= 36; least++) {
            levels += Long.bitCount(house.popular(one, other, least));
        }
        holds("the ways are the pairs", pairs == count(one) * count(other));
        holds("the popular ones are the pairs", levels == pairs);
        int sum = made(Sumsetry.SUM, one, other);
        holds("popular by 1 is SUM", house.popular(one, other, 1) == bitsOf(sum));
        int turned = made(Sumsetry.SUM, other, one);
        holds("sums can be turned round", bitsOf(sum) == bitsOf(turned));
        int less = house.move(other, -1, 0);
        holds("a difference is a sum with less", bitsOf(made(Sumsetry.DIFFERENCE, one, other))
                == bitsOf(made(Sumsetry.SUM, one, less)));
    }

    private void energies() {
        int energy = house.energy(one, other);
        holds("both energies", energy == house.energyAnew(one, other));
        holds("energies can be turned round", energy == house.energy(other, one));
        int pairs = count(one) * count(other);
        long sums = Long.bitCount(house.popular(one, other, 1));
        holds("Cauchy and Schwarz", energy * sums >= (long) pairs * pairs);
        holds("each pair counts itself", energy >= pairs);
        boolean unlike = house.energy(one, one) == 2 * count(one) * count(one) - count(one);
        holds("the least energy is that of SIDON", unlike == house.keeps(one, Sumsetry.SIDON));
    }

    private void smallSums() {
        holds("Kneser", house.excess(one, other) >= 0);
        holds("Kneser, with itself", house.excess(one, one) >= 0);
        holds("Ruzsa's triangle", house.slack(one, other, third) >= 0);
        holds("Ruzsa's triangle, turned", house.slack(third, one, other) >= 0);
        int still = house.set(house.stabilizer(one));
        holds("the stabilizer has 0", (bitsOf(still) & 1) == 1);
        holds("the stabilizer divides the group", size % count(still) == 0);
        holds("the stabilizer is closed", bitsOf(made(Sumsetry.SUM, still, still)) == bitsOf(still));
        holds("what stays as it is", bitsOf(made(Sumsetry.SUM, one, still)) == bitsOf(one));
    }

    /** Ruzsa's covering: A lies in the cover and the differences of B, and the cover times B is no more than SUM. */
    private void covers() {
        int taken = house.set(house.cover(one, other));
        holds("the cover is of the set", (bitsOf(taken) & ~bitsOf(one)) == 0);
        holds("it reaches apart", Long.bitCount(house.popular(taken, other, 1)) == count(taken) * count(other));
        int around = made(Sumsetry.SUM, taken, made(Sumsetry.DIFFERENCE, other, other));
        holds("it covers", (bitsOf(one) & ~bitsOf(around)) == 0);
    }

    private void orders() {
        int order = house.order(one);
        long all = first(size);
        if (order == Sumsetry.NONE) {
            holds("never all", house.sums(one, 100) != all);
            holds("none is essential", house.essential(one) == 0);
        } else {
            holds("all at the order", house.sums(one, order) == all);
            holds("not ahead of it", order == 1 || house.sums(one, order - 1) != all);
            holds("all from there on", house.sums(one, 100) == all);
        }
        int moved = house.move(one, 1, next(size));
        holds("moved, the order stays", house.order(moved) == order);
    }

    /** Less, with an element added, is a map of every order of a small set, and undone by itself. */
    private void moved() {
        int element = next(size);
        int small = house.set(fewOf(bitsOf(third)));
        int turned = house.move(small, -1, element);
        int back = house.move(turned, -1, element);
        holds("moved back", bitsOf(small) == bitsOf(back));
        for (int order = 2; order <= 3; order++) {
            int maps = house.maps(small, turned, order);
            holds("a map", maps > 0);
            holds("as many back", maps == house.maps(turned, small, order));
            holds("as many onto itself", maps == house.maps(small, small, order));
            int lowest = Long.numberOfTrailingZeros(bitsOf(small));
            holds("the first one leaves a set as it is", house.image(small, small, order, lowest) == lowest);
        }
        holds("more keep the order 2", house.maps(small, turned, 2) >= house.maps(small, turned, 3));
        for (int rule = Sumsetry.FREE; rule <= Sumsetry.APART; rule++) {
            boolean turns = rule == Sumsetry.FREE || rule == Sumsetry.APART;
            int there = turns ? house.move(small, -1, 0) : turned;
            holds("the rule " + rule + " is kept there", house.keeps(small, rule) == house.keeps(there, rule));
        }
    }

    private static long fewOf(long bits) {
        long few = bits;
        while (Long.bitCount(few) > 5) {
            few &= few - 1;
        }
        return few;
    }

    private void rules() {
        long bits = bitsOf(other);
        while (Long.bitCount(bits) > 12) {
            bits &= bits - 1;
        }
        int searched = house.set(bits);
        for (int rule = Sumsetry.FREE; rule <= Sumsetry.APART; rule++) {
            long greatest = house.greatest(searched, rule);
            holds("both searches by " + rule, greatest == house.greatestAnew(searched, rule));
            holds("of the set, by " + rule, (greatest & ~bits) == 0);
            holds("all of it just if it keeps " + rule, (greatest == bits) == house.keeps(searched, rule));
            if (greatest != 0) {
                int kept = house.set(greatest);
                holds("it keeps " + rule, house.keeps(kept, rule));
                holds("it is its own by " + rule, house.greatest(kept, rule) == greatest);
            }
        }
    }

    /** Olson: a row as long as greatest common divisor and least common multiple, less 1, has a zero part. */
    private void rows() {
        for (int round = 0; round < ROUNDS; round++) {
            Sumsetry full = house(m, n);
            int[] row = new int[12];
            for (int place = 0; place < row.length; place++) {
                row[place] = next(size);
                full.put(row[place]);
            }
            of = " of " + m + " and " + n;
            int part = full.zero();
            holds("a row of twelve", part != 0 || common() + size / common() - 1 > 12);
            int sum = 0;
            for (int place = 0; place < row.length; place++) {
                sum = (part >> place & 1) == 1 ? full.add(sum, row[place], true) : sum;
            }
            holds("the part is zero", sum == 0);
        }
    }

    private int common() {
        int found = m;
        while (m % found != 0 || n % found != 0) {
            found--;
        }
        return found;
    }
}
