import java.util.ArrayList;
import java.util.Arrays;
import java.util.List;
import java.util.TreeSet;

/**
 * Small groups, and of these not drawn sets but all: each set, each two, each three, each row, compared with what Told
 * makes of the document's terms.
 */
public final class AllSetsTest extends Answers {
    public static void main(String[] args) {
        for (int m = 1; m <= 12; m++) {
            for (int n = 1; m * n <= 12; n++) {
                setsOf(m, n);
            }
        }
        REPORT.end("AllSetsTest");
    }

    private static void setsOf(int m, int n) {
        Told told = new Told(m, n);
        int size = m * n;
        if (size <= 10) {
            eachSet(told);
        }
        if (size <= 6) {
            eachMoved(told);
            eachTwo(told);
        }
        if (size <= 4) {
            eachThree(told);
        }
        if (size <= 5) {
            eachRow(told, new int[0]);
        }
        if (size >= 11) {
            eachSearched(told);
        }
    }

    private static Sumsetry houseOf(Told told, long... sets) {
        return house(told.m, told.n, sets);
    }

    private static String of(Told told) {
        return " of " + told.m + " and " + told.n + ": ";
    }

    private static void eachSet(Told told) {
        for (long bits = 1; bits < 1L << told.size(); bits++) {
            TreeSet<Integer> set = Told.setOf(bits);
            TermsTest.oneSetDue(told, houseOf(told, bits), set, 0);
            Sumsetry house = houseOf(told, bits);
            for (int many = 1; many <= 100; many++) {
                int asked = many;
                due("sums" + of(told) + set + many, Told.bitsOf(told.sums(set, Math.min(many, lastUnlike(told, many)))),
                        () -> house.sums(0, asked));
            }
            for (int rule = Sumsetry.FREE; rule <= Sumsetry.APART; rule++) {
                int by = rule;
                long want = Told.bitsOf(told.greatest(set, rule));
                due("greatest" + of(told) + set + rule, want, () -> house.greatest(0, by));
                due("greatestAnew" + of(told) + set + rule, want, () -> house.greatestAnew(0, by));
            }
        }
    }

    /**
     * Sums of as many as the group has elements, or more, are as those of so many more: each is the same shift of
     * what stays as it is, and the shift comes round. So Told need not add a hundred times.
     */
    private static int lastUnlike(Told told, int many) {
        int size = told.size();
        return many < 2 * size ? many : size + many % size;
    }

    private static void eachMoved(Told told) {
        for (long bits = 1; bits < 1L << told.size(); bits++) {
            TreeSet<Integer> set = Told.setOf(bits);
            for (int times = -13; times <= 13; times++) {
                Sumsetry house = houseOf(told, bits);
                for (int element = 0; element < told.size(); element++) {
                    int often = times;
                    int by = element;
                    due("move" + of(told) + set, 1 + element, () -> house.move(0, often, by));
                    due("move" + of(told) + set + times + ", " + element, Told.bitsOf(told.move(set, times, element)),
                            () -> house.elements(1 + by));
                }
            }
        }
    }

    private static void eachTwo(Told told) {
        for (long one = 1; one < 1L << told.size(); one++) {
            for (long other = 1; other < 1L << told.size(); other++) {
                TreeSet<Integer> set = Told.setOf(one);
                TreeSet<Integer> with = Told.setOf(other);
                TermsTest.twoSetsDue(told, houseOf(told, one, other), set, with, 0, 1);
                Sumsetry house = houseOf(told, one, other);
                TermsTest.mapsDue(told, house, set, with, 0, 1);
                for (int element = 0; element < told.size(); element++) {
                    int asked = element;
                    due("ways" + of(told) + set + with + element, told.ways(set, with, element),
                            () -> house.ways(0, 1, asked));
                }
            }
        }
    }

    private static void eachThree(Told told) {
        List<TreeSet<Integer>> sets = new ArrayList<>();
        for (long bits = 1; bits < 1L << told.size(); bits++) {
            sets.add(Told.setOf(bits));
        }
        long[] all = sets.stream().mapToLong(Told::bitsOf).toArray();
        for (int one = 0; one < all.length; one++) {
            for (int other = 0; other < all.length; other++) {
                Sumsetry house = houseOf(told, all);
                for (int third = 0; third < all.length; third++) {
                    int[] asked = {one, other, third};
                    due("slack" + of(told) + Arrays.toString(asked),
                            told.slack(sets.get(one), sets.get(other), sets.get(third)),
                            () -> house.slack(asked[0], asked[1], asked[2]));
                }
            }
        }
    }

    /** All rows of up to five places. */
    private static void eachRow(Told told, int[] row) {
        Sumsetry house = rowOf(told.m, told.n, row);
        due("zero" + of(told) + Arrays.toString(row), told.zero(row), house::zero);
        due("wipe" + of(told) + Arrays.toString(row), row.length, house::wipe);
        for (int element = 0; element < told.size() && row.length < 5; element++) {
            int[] longer = Arrays.copyOf(row, row.length + 1);
            longer[row.length] = element;
            eachRow(told, longer);
        }
    }

    /** Both searches of groups with 11 and 12 elements: they share the rules, but not how they go through subsets. */
    private static void eachSearched(Told told) {
        for (long bits = 1; bits < 1L << told.size(); bits++) {
            Sumsetry house = houseOf(told, bits);
            for (int rule = Sumsetry.FREE; rule <= Sumsetry.APART; rule++) {
                int by = rule;
                due("greatest" + of(told) + bits + ", " + rule, house.greatestAnew(0, by), () -> house.greatest(0, by));
            }
        }
    }
}
