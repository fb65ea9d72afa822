import java.util.ArrayList;
import java.util.Arrays;
import java.util.List;
import java.util.TreeSet;
import java.util.function.Supplier;

/**
 * Runs of 512 calls of all kinds, taken and refused, drawn from a fixed row of numbers: each answer is compared with
 * what Clauses and Told make of all that the house was told before.
 */
public final class RunsTest extends Answers {
    private static final int RUNS = 300;
    private static final int CALLS = 512;
    private static final int[][] SMALL = {{1, 1}, {1, 2}, {2, 2}, {1, 5}, {1, 6}, {2, 3}, {2, 4}, {1, 10}, {5, 2}};
    private static final int[] ODD = {LOWEST, -101, -1, 0, 1, 4, 5, 6, 10, 12, 30, 35, 36, 37, 100, 101, HIGHEST};
    /** Primes, and two numbers that are none that is taken. */
    private static final int[] PRIMES = {2, 3, 5, 7, 11, 13, 17, 19, 29, 31, 37, 41, 61, 71, 73, 9973, 9, 10007};

    private final Sumsetry house = new Sumsetry();
    private final List<TreeSet<Integer>> sets = new ArrayList<>();
    private final List<Integer> row = new ArrayList<>();
    private Told told = new Told(1, 1);
    private int p = 0;
    private int w = 0;
    private String run;

    public static void main(String[] args) {
        for (int run = 0; run < RUNS; run++) {
            RunsTest test = new RunsTest();
            for (int call = 0; call < CALLS; call++) {
                test.run = "run " + run + ", call " + call + ": ";
                test.one(call == 0 ? 0 : next(64));
            }
        }
        REPORT.end("RunsTest");
    }

    private Clauses clauses() {
        return new Clauses(told.m, told.n, sets.stream().mapToLong(Told::bitsOf).toArray(), row.size(), p);
    }

    private int someSet() {
        return next(16) == 0 || sets.isEmpty() ? odd(sets.size()) : next(sets.size());
    }

    private int someElement() {
        return next(16) == 0 ? odd(told.size()) : next(told.size());
    }

    /** A number from low to high, or now and then an odd one. */
    private int some(int low, int high) {
        return next(8) == 0 ? odd(high + 1) : low + next(high - low + 1);
    }

    private static int odd(int beyond) {
        return next(3) == 0 ? beyond : ODD[next(ODD.length)];
    }

    private long someBits() {
        long bits = 0;
        for (int many = next(next(3) == 0 ? 14 : 5); many > 0; many--) {
            bits |= 1L << next(told.size());
        }
        return next(16) == 0 ? bits | 1L << next(64) : bits;
    }

    private boolean asked(String call, Class<?> thrown, Supplier<Object> answer, Report.Call made) {
        due(run + call, thrown == null ? answer.get() : thrown, made);
        return thrown == null;
    }

    private void one(int kind) {
        if (kind == 0) {
            group();
        } else if (kind < 13) {
            make(kind);
        } else if (kind < 24) {
            rowsAndRoots(kind);
        } else if (kind < 36) {
            oneSet(someSet(), kind);
        } else if (kind < 48) {
            twoSets(someSet(), someSet(), kind);
        } else {
            mapsAndRules(kind);
        }
    }

    private void group() {
        int[] small = SMALL[next(SMALL.length)];
        int m = next(2) == 0 ? small[0] : some(1, 7);
        int n = m == small[0] ? small[1] : some(1, 36 / Math.max(1, Math.min(m, 36)));
        if (asked("group(" + m + ", " + n + ")", Clauses.group(m, n), () -> m * n, () -> house.group(m, n))) {
            told = new Told(m, n);
            sets.clear();
            row.clear();
            p = 0;
        }
    }

    private void make(int kind) {
        int one = someSet();
        int other = someSet();
        int how = some(Sumsetry.SUM, Sumsetry.WITHOUT);
        int times = some(-100, 100);
        int element = someElement();
        long bits = someBits();
        if (kind < 6) {
            if (asked("set(" + bits + ")", clauses().set(bits), sets::size, () -> house.set(bits))) {
                sets.add(Told.setOf(bits));
            }
        } else if (kind < 10) {
            if (asked("combine" + List.of(how, one, other), clauses().combine(how, one, other), sets::size,
                    () -> house.combine(how, one, other))) {
                sets.add(told.combine(how, sets.get(one), sets.get(other)));
            }
        } else if (asked("move" + List.of(one, times, element), clauses().move(one, times, element), sets::size,
                () -> house.move(one, times, element))) {
            sets.add(told.move(sets.get(one), times, element));
        }
    }

    private void rowsAndRoots(int kind) {
        int element = someElement();
        if (kind < 17) {
            if (asked("put(" + element + ")", clauses().put(element), () -> row.size() + 1, () -> house.put(element))) {
                row.add(element);
            }
        } else if (kind < 19) {
            asked("zero()", null, () -> told.zero(row.stream().mapToInt(one -> one).toArray()), house::zero);
        } else if (kind == 19 && next(4) == 0) {
            asked("wipe()", null, row::size, house::wipe);
            row.clear();
        } else if (kind == 20 && told.size() != 9) {
            asked("constant()", clauses().constant(), told::constant, house::constant);
        } else if (kind == 21 && (told.m == 1 || next(4) == 0)) {
            root();
        } else if (kind == 22) {
            int other = someElement();
            boolean isSum = next(2) == 0;
            asked("add" + List.of(element, other, isSum), clauses().add(element, other),
                    () -> told.plus(element, isSum ? other : told.less(other)), () -> house.add(element, other, isSum));
        } else {
            int what = next(8) - 1;
            asked("of(" + what + ")", Clauses.of(what),
                    () -> Arrays.asList(told.m, told.n, sets.size(), row.size(), p).get(what), () -> house.of(what));
        }
    }

    /** A root is looked for now and then by trying: most numbers are none. */
    private void root() {
        int newP = PRIMES[next(PRIMES.length)];
        for (int tried = 0; tried < 20 && (newP - 1) % told.n != 0; tried++) {
            newP = PRIMES[next(PRIMES.length)];
        }
        int newW = some(1, Math.max(1, newP - 1));
        for (int tried = 1; tried < Math.min(newP, 80) && next(90) != 0 && !told.isRoot(newP, newW); tried++) {
            newW = tried;
        }
        int newest = newP;
        int by = newW;
        if (asked("root" + List.of(newest, by), clauses().root(newest, by), () -> "nothing",
                () -> rootTold(house, newest, by))) {
            p = newest;
            w = by;
        }
    }

    private void oneSet(int set, int kind) {
        Class<?> thrown = clauses().ofSets(set);
        int many = some(1, 100);
        int k = some(0, told.n - 1);
        switch (kind) {
            case 24:
            case 25:
                asked("elements(" + set + ")", thrown, () -> Told.bitsOf(sets.get(set)), () -> house.elements(set));
                break;
            case 26:
                asked("stabilizer(" + set + ")", thrown, () -> Told.bitsOf(told.stabilizer(sets.get(set))),
                        () -> house.stabilizer(set));
                break;
            case 27:
            case 28:
                asked("order(" + set + ")", thrown, () -> told.order(sets.get(set)), () -> house.order(set));
                break;
            case 29:
                asked("essential(" + set + ")", thrown, () -> Told.bitsOf(told.essential(sets.get(set))),
                        () -> house.essential(set));
                break;
            case 30:
            case 31:
                asked("sums" + List.of(set, many), clauses().sums(set, many),
                        () -> Told.bitsOf(told.sums(sets.get(set), many)), () -> house.sums(set, many));
                break;
            default:
                asked("transform" + List.of(set, k), clauses().transform(set, k),
                        () -> told.transform(sets.get(set), k, p, w), () -> house.transform(set, k));
                break;
        }
    }

    private void twoSets(int one, int other, int kind) {
        Class<?> thrown = clauses().ofSets(one, other);
        Supplier<TreeSet<Integer>> a = () -> sets.get(one);
        Supplier<TreeSet<Integer>> b = () -> sets.get(other);
        String of = List.of(one, other).toString();
        int element = someElement();
        int least = some(1, 36);
        int third = someSet();
        switch (kind) {
            case 36:
            case 37:
                asked("ways" + of + element, clauses().ways(one, other, element),
                        () -> told.ways(a.get(), b.get(), element), () -> house.ways(one, other, element));
                break;
            case 38:
            case 39:
                asked("popular" + of + least, clauses().popular(one, other, least),
                        () -> Told.bitsOf(told.popular(a.get(), b.get(), least)),
                        () -> house.popular(one, other, least));
                break;
            case 40:
                asked("energy" + of, thrown, () -> told.energy(a.get(), b.get()), () -> house.energy(one, other));
                break;
            case 41:
                asked("energyAnew" + of, thrown, () -> told.energy(a.get(), b.get()),
                        () -> house.energyAnew(one, other));
                break;
            case 42:
            case 43:
                asked("excess" + of, thrown, () -> told.excess(a.get(), b.get()), () -> house.excess(one, other));
                break;
            case 44:
                asked("slack" + of + third, clauses().ofSets(one, other, third),
                        () -> told.slack(a.get(), b.get(), sets.get(third)), () -> house.slack(one, other, third));
                break;
            case 45:
                asked("cover" + of, thrown, () -> Told.bitsOf(told.cover(a.get(), b.get())),
                        () -> house.cover(one, other));
                break;
            default:
                asked("waysAnew" + of + element, clauses().waysAnew(one, other, element),
                        () -> told.waysAnew(a.get(), b.get(), element, p, w),
                        () -> house.waysAnew(one, other, element));
                break;
        }
    }

    private void mapsAndRules(int kind) {
        int set = someSet();
        int other = someSet();
        int element = someElement();
        int order = some(2, 3);
        int rule = some(Sumsetry.FREE, Sumsetry.APART);
        long bits = someBits();
        if (kind < 51) {
            asked("maps" + List.of(set, other, order), clauses().maps(set, other, order),
                    () -> told.maps(sets.get(set), sets.get(other), order).size(), () -> house.maps(set, other, order));
        } else if (kind < 54) {
            asked("image" + List.of(set, other, order, element), clauses().image(set, other, order, element),
                    () -> image(sets.get(set), sets.get(other), order, element),
                    () -> house.image(set, other, order, element));
        } else if (kind < 57) {
            asked("keeps" + List.of(set, rule), clauses().keeps(set, rule), () -> told.keeps(sets.get(set), rule),
                    () -> house.keeps(set, rule));
        } else if (kind < 60) {
            boolean isAnew = next(2) == 0;
            asked("greatest" + List.of(set, rule, isAnew), clauses().greatest(set, rule),
                    () -> Told.bitsOf(told.greatest(sets.get(set), rule)),
                    () -> isAnew ? house.greatestAnew(set, rule) : house.greatest(set, rule));
        } else {
            asked("wins" + List.of(rule, bits), clauses().wins(rule, bits),
                    () -> Told.bitsOf(told.wins(rule, Told.setOf(bits))), () -> house.wins(rule, bits));
        }
    }

    private int image(TreeSet<Integer> set, TreeSet<Integer> other, int order, int element) {
        List<int[]> maps = told.maps(set, other, order);
        return maps.isEmpty() || !set.contains(element) ? Sumsetry.NONE : maps.get(0)[set.headSet(element).size()];
    }
}
