import java.util.ArrayList;
import java.util.Arrays;
import java.util.List;
import java.util.TreeSet;

/**
 * All groups, with sets of many kinds: every answer is compared with what Told makes of the document's terms. No
 * house is asked more than 512 times, since what later calls answer is free.
 */
public final class TermsTest extends Answers {
    private static final int[][] WIDE = {{1, 36}, {36, 1}, {6, 6}, {4, 9}, {9, 4}, {2, 18}, {18, 2}, {3, 12},
        {12, 3}, {1, 31}, {5, 7}, {1, 35}, {4, 8}, {8, 4}, {2, 16}, {5, 5}, {3, 9}, {1, 12}, {2, 6}, {2, 8}};

    public static void main(String[] args) {
        for (int m = 1; m <= 36; m++) {
            for (int n = 1; m * n <= 36; n++) {
                additionDue(m, n);
                if (m * n <= 10) {
                    constantDue(m, n);
                }
                for (int round = 0; round < 2; round++) {
                    houseDue(m, n);
                }
                rowDue(m, n);
            }
        }
        for (int[] group : WIDE) {
            for (int round = 0; round < 6; round++) {
                houseDue(group[0], group[1]);
                searchDue(group[0], group[1]);
                rowDue(group[0], group[1]);
            }
        }
        for (int n = 1; n <= 36; n++) {
            transformsDue(n);
        }
        for (int m = 1; m <= 10; m++) {
            for (int n = 1; m * n <= 10; n++) {
                gamesDue(m, n);
            }
        }
        primesDue();
        REPORT.end("TermsTest");
    }

    private static TreeSet<Integer> someSet(int size, int most) {
        TreeSet<Integer> made = new TreeSet<>();
        int many = 1 + next(Math.min(size, most));
        while (made.size() < many) {
            made.add(next(size));
        }
        return made;
    }

    private static void additionDue(int m, int n) {
        Told told = new Told(m, n);
        for (int one = 0; one < m * n; one++) {
            Sumsetry house = new Sumsetry();
            due("group", m * n, () -> house.group(m, n));
            for (int other = 0; other < m * n; other++) {
                int x = one;
                int y = other;
                String of = " of " + m + " and " + n + "(" + x + ", " + y + ")";
                due("add" + of, told.plus(x, y), () -> house.add(x, y, true));
                due("subtract" + of, told.plus(x, told.less(y)), () -> house.add(x, y, false));
            }
        }
    }

    private static void constantDue(int m, int n) {
        Sumsetry house = house(m, n);
        due("constant of " + m + " and " + n, new Told(m, n).constant(), () -> house.constant());
    }

    private static void houseDue(int m, int n) {
        Told told = new Told(m, n);
        List<TreeSet<Integer>> sets = new ArrayList<>();
        for (int number = 0; number < 4; number++) {
            sets.add(someSet(m * n, number == 0 ? 36 : 6));
        }
        sets.add(told.stabilizer(told.combine(Sumsetry.SUM, sets.get(0), sets.get(1))));
        sets.add(told.move(sets.get(1), -1, next(m * n)));
        for (int one = 0; one < sets.size(); one++) {
            oneSetDue(told, houseOf(m, n, sets), sets.get(one), one);
            for (int other = 0; other < sets.size(); other++) {
                Sumsetry house = houseOf(m, n, sets);
                twoSetsDue(told, house, sets.get(one), sets.get(other), one, other);
                mapsDue(told, house, sets.get(one), sets.get(other), one, other);
            }
        }
        Sumsetry house = houseOf(m, n, sets);
        due("slack", told.slack(sets.get(1), sets.get(0), sets.get(2)), () -> house.slack(1, 0, 2));
        due("slack", told.slack(sets.get(4), sets.get(3), sets.get(5)), () -> house.slack(4, 3, 5));
    }

    private static Sumsetry houseOf(int m, int n, List<TreeSet<Integer>> sets) {
        return house(m, n, sets.stream().mapToLong(Told::bitsOf).toArray());
    }

    static void oneSetDue(Told told, Sumsetry house, TreeSet<Integer> set, int number) {
        String of = " of " + told.m + " and " + told.n + ": " + set;
        due("elements" + of, Told.bitsOf(set), () -> house.elements(number));
        due("stabilizer" + of, Told.bitsOf(told.stabilizer(set)), () -> house.stabilizer(number));
        due("order" + of, told.order(set), () -> house.order(number));
        due("essential" + of, Told.bitsOf(told.essential(set)), () -> house.essential(number));
        for (int many = 1; many < 6; many++) {
            int asked = many;
            due("sums" + of + many, Told.bitsOf(told.sums(set, many)), () -> house.sums(number, asked));
        }
        due("sums" + of + 100, Told.bitsOf(told.sums(set, 100)), () -> house.sums(number, 100));
        for (int rule = Sumsetry.FREE; rule <= Sumsetry.APART; rule++) {
            int asked = rule;
            due("keeps" + of + rule, told.keeps(set, rule), () -> house.keeps(number, asked));
        }
        int times = next(201) - 100;
        int element = next(told.size());
        int made = house.of(2);
        due("move" + of, made, () -> house.move(number, times, element));
        due("move" + of + times + ", " + element, Told.bitsOf(told.move(set, times, element)),
                () -> house.elements(made));
    }

    static void twoSetsDue(Told told, Sumsetry house, TreeSet<Integer> set, TreeSet<Integer> with, int one,
            int other) {
        String of = " of " + told.m + " and " + told.n + ": " + set + with;
        for (int least = 1; least < 4; least++) {
            int asked = least;
            due("popular" + of + least, Told.bitsOf(told.popular(set, with, least)),
                    () -> house.popular(one, other, asked));
        }
        int element = next(told.size());
        due("ways" + of + element, told.ways(set, with, element), () -> house.ways(one, other, element));
        due("energy" + of, told.energy(set, with), () -> house.energy(one, other));
        due("energyAnew" + of, told.energy(set, with), () -> house.energyAnew(one, other));
        due("excess" + of, told.excess(set, with), () -> house.excess(one, other));
        due("cover" + of, Told.bitsOf(told.cover(set, with)), () -> house.cover(one, other));
        for (int how = Sumsetry.SUM; how <= Sumsetry.WITHOUT; how++) {
            int asked = how;
            int number = house.of(2);
            TreeSet<Integer> made = told.combine(how, set, with);
            Object want = made.isEmpty() ? STATE : (Object) number;
            due("combine" + of + how, want, () -> house.combine(asked, one, other));
            if (!made.isEmpty()) {
                due("combine" + of + how, Told.bitsOf(made), () -> house.elements(number));
            }
        }
    }

    static void mapsDue(Told told, Sumsetry house, TreeSet<Integer> set, TreeSet<Integer> with, int one,
            int other) {
        for (int order = 2; order <= 3; order++) {
            int by = order;
            String of = " of " + told.m + " and " + told.n + ": " + set + with + order;
            if (set.size() > 6 || with.size() > 6) {
                due("maps" + of, STATE, () -> house.maps(one, other, by));
                continue;
            }
            List<int[]> maps = told.maps(set, with, order);
            due("maps" + of, maps.size(), () -> house.maps(one, other, by));
            List<Integer> members = new ArrayList<>(set);
            for (int element = 0; element < told.size(); element += 1 + next(3)) {
                int asked = element;
                int place = members.indexOf(element);
                int want = place < 0 || maps.isEmpty() ? Sumsetry.NONE : maps.get(0)[place];
                due("image" + of + element, want, () -> house.image(one, other, by, asked));
            }
        }
    }

    private static void searchDue(int m, int n) {
        Told told = new Told(m, n);
        TreeSet<Integer> set = new TreeSet<>();
        int first = next(m * n);
        int step = 1 + next(3);
        while (set.size() < Math.min(12, (m * n + step - 1) / step)) {
            set.add((first + step * set.size()) % (m * n));
            if (next(3) == 0) {
                set.add(next(m * n));
            }
            first++;
        }
        while (set.size() > 12) {
            set.pollLast();
        }
        Sumsetry house = house(m, n, Told.bitsOf(set));
        for (int rule = Sumsetry.FREE; rule <= Sumsetry.APART; rule++) {
            int by = rule;
            long want = Told.bitsOf(told.greatest(set, rule));
            due("greatest of " + m + " and " + n + ": " + set + rule, want, () -> house.greatest(0, by));
            due("greatestAnew of " + m + " and " + n + ": " + set + rule, want, () -> house.greatestAnew(0, by));
        }
    }

    private static void rowDue(int m, int n) {
        Told told = new Told(m, n);
        Sumsetry house = house(m, n);
        int[] row = new int[0];
        int length = m * n > 8 ? 12 : 6;
        while (row.length < length) {
            int element = m * n == 1 ? 0 : 1 + next(m * n - 1);
            row = Arrays.copyOf(row, row.length + 1);
            row[row.length - 1] = element;
            due("put", row.length, () -> house.put(element));
            due("zero of " + m + " and " + n + ": " + Arrays.toString(row), told.zero(row),
                    () -> house.zero());
        }
        due("wipe", length, () -> house.wipe());
    }

    private static void gamesDue(int m, int n) {
        Told told = new Told(m, n);
        Sumsetry house = house(m, n);
        for (int rule = Sumsetry.FREE; rule <= Sumsetry.APART; rule++) {
            for (long put = 0; put < 1L << m * n; put++) {
                house = put % 256 == 0 ? house(m, n) : house;
                Sumsetry playing = house;
                long asked = put;
                int by = rule;
                TreeSet<Integer> set = Told.setOf(put);
                Object want = told.keeps(set, rule) ? (Object) Told.bitsOf(told.wins(rule, set)) : ARGUMENT;
                due("wins of " + m + " and " + n + "(" + rule + ", " + set + ")", want,
                        () -> playing.wins(by, asked));
            }
        }
    }

    private static void transformsDue(int n) {
        Told told = new Told(1, n);
        TreeSet<Integer> one = someSet(n, 36);
        TreeSet<Integer> other = someSet(n, 36);
        for (int p = 2; p < 60; p++) {
            Sumsetry house = houseOf(1, n, List.of(one, other));
            for (int w = 1; w < p; w++) {
                transformsDue(told, house, one, other, p, w);
            }
        }
        for (int p = 9900; p < 10000; p++) {
            if ((p - 1) % n == 0 && Told.isPrime(p)) {
                transformsDue(told, houseOf(1, n, List.of(one, other)), one, other, p, rootOf(told, p));
            }
        }
    }

    private static int rootOf(Told told, int p) {
        int w = 1 + next(p - 1);
        while (!told.isRoot(p, w)) {
            w = w % (p - 1) + 1;
        }
        return w;
    }

    private static void transformsDue(Told told, Sumsetry house, TreeSet<Integer> one, TreeSet<Integer> other,
            int p, int w) {
        String of = " of " + told.n + " by " + p + " and " + w;
        boolean isRoot = told.isRoot(p, w);
        rootDue("root" + of, isRoot ? "nothing" : ARGUMENT, house, p, w);
        if (!isRoot) {
            return;
        }
        due("the prime" + of, p, () -> house.of(4));
        for (int k = 0; k < told.n; k += 1 + next(5)) {
            int asked = k;
            due("transform" + of, told.transform(one, k, p, w), () -> house.transform(0, asked));
        }
        int y = next(told.n);
        due("waysAnew" + of, told.waysAnew(one, other, y, p, w), () -> house.waysAnew(0, 1, y));
        due("waysAnew as ways" + of, told.ways(one, other, y) % p, () -> house.waysAnew(0, 1, y));
    }

    /** With n 1 the root of every prime is 1, so that root tells which numbers are primes. */
    private static void primesDue() {
        for (int p = -2; p < 10010; p++) {
            boolean taken = p <= 9999 && Told.isPrime(p);
            rootDue("root(" + p + ", 1)", taken ? "nothing" : ARGUMENT, new Sumsetry(), p, 1);
        }
    }
}
