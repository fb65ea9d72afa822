/**
 * What the throws clauses of the document say, word by word, of a house of which all is known. Each answers the
 * exception that is due, the one that its clause names first, or null where the call is taken.
 */
final class Clauses {
    private static final Class<?> INDEX = IndexOutOfBoundsException.class;
    private static final Class<?> ARGUMENT = IllegalArgumentException.class;
    private static final Class<?> STATE = IllegalStateException.class;

    final Told told;
    final long[] sets;
    final int rowCount;
    final int prime;

    Clauses(int m, int n, long[] sets, int rowCount, int prime) {
        told = new Told(m, n);
        this.sets = sets;
        this.rowCount = rowCount;
        this.prime = prime;
    }

    private static Class<?> firstOf(boolean index, boolean argument, boolean state) {
        return index ? INDEX : argument ? ARGUMENT : state ? STATE : null;
    }

    private boolean noSet(int... numbers) {
        boolean none = false;
        for (int number : numbers) {
            none |= number < 0 || number >= sets.length;
        }
        return none;
    }

    private boolean noElement(int... elements) {
        boolean none = false;
        for (int element : elements) {
            none |= element < 0 || element >= told.size();
        }
        return none;
    }

    private static boolean noRule(int rule) {
        return rule < Sumsetry.FREE || rule > Sumsetry.APART;
    }

    private boolean hasNoElement(long bits) {
        return bits < 0 || bits >= 1L << told.size();
    }

    private int count(int set) {
        return Told.setOf(sets[set]).size();
    }

    private boolean isFull() {
        return sets.length == 30;
    }

    static Class<?> group(int m, int n) {
        return firstOf(false, m < 1 || m > 36 || n < 1 || n > 36 || (long) m * n > 36, false);
    }

    Class<?> add(int one, int other) {
        return firstOf(noElement(one, other), false, false);
    }

    Class<?> set(long elements) {
        return firstOf(false, elements == 0 || hasNoElement(elements), isFull());
    }

    Class<?> combine(int how, int one, int other) {
        if (noSet(one, other) || how < Sumsetry.SUM || how > Sumsetry.WITHOUT) {
            return firstOf(noSet(one, other), true, false);
        }
        boolean isEmpty = told.combine(how, Told.setOf(sets[one]), Told.setOf(sets[other])).isEmpty();
        return firstOf(false, false, isEmpty || isFull());
    }

    Class<?> move(int set, int times, int element) {
        return firstOf(noSet(set) || noElement(element), times < -100 || times > 100, isFull());
    }

    Class<?> ofSets(int... numbers) {
        return firstOf(noSet(numbers), false, false);
    }

    Class<?> ways(int one, int other, int element) {
        return firstOf(noSet(one, other) || noElement(element), false, false);
    }

    Class<?> popular(int one, int other, int least) {
        return firstOf(noSet(one, other), least < 1 || least > 36, false);
    }

    Class<?> sums(int set, int many) {
        return firstOf(noSet(set), many < 1 || many > 100, false);
    }

    Class<?> image(int set, int other, int order, int element) {
        return noElement(element) ? INDEX : maps(set, other, order);
    }

    Class<?> maps(int set, int other, int order) {
        if (noSet(set, other)) {
            return INDEX;
        }
        return firstOf(false, order != 2 && order != 3, count(set) > 6 || count(other) > 6);
    }

    Class<?> keeps(int set, int rule) {
        return firstOf(noSet(set) || noRule(rule), false, false);
    }

    Class<?> greatest(int set, int rule) {
        return noSet(set) || noRule(rule) ? INDEX : firstOf(false, false, count(set) > 12);
    }

    Class<?> wins(int rule, long elements) {
        if (noRule(rule) || hasNoElement(elements)) {
            return firstOf(noRule(rule), true, false);
        }
        return firstOf(false, !told.keeps(Told.setOf(elements), rule), told.size() > 10);
    }

    Class<?> put(int element) {
        return firstOf(noElement(element), false, rowCount == 12);
    }

    Class<?> constant() {
        return firstOf(false, false, told.size() > 10);
    }

    Class<?> root(int p, int w) {
        return firstOf(false, !told.isRoot(p, w), told.m != 1);
    }

    Class<?> transform(int set, int k) {
        return firstOf(noSet(set), k < 0 || k >= told.n, prime == 0);
    }

    Class<?> waysAnew(int one, int other, int element) {
        return firstOf(noSet(one, other) || noElement(element), false, prime == 0);
    }

    static Class<?> of(int what) {
        return firstOf(false, what < 0 || what > 4, false);
    }
}
