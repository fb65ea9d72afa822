import java.util.ArrayList;
import java.util.Arrays;
import java.util.HashMap;
import java.util.List;
import java.util.Map;
import java.util.TreeSet;

/** What the document's terms say, told a second time word by word over sets of pairs, with no bits and no haste. */
final class Told {
    final int m;
    final int n;
    private final Map<List<Object>, TreeSet<Integer>> winsAsked = new HashMap<>();

    Told(int m, int n) {
        this.m = m;
        this.n = n;
    }

    int size() {
        return m * n;
    }

    int plus(int one, int other) {
        return n * ((one / n + other / n) % m) + (one % n + other % n) % n;
    }

    int less(int element) {
        for (int other = 0; other < size(); other++) {
            if (plus(element, other) == 0) {
                return other;
            }
        }
        throw new AssertionError("no such element");
    }

    int multiple(int times, int element) {
        int added = 0;
        for (int time = 0; time < Math.abs(times); time++) {
            added = plus(added, times < 0 ? less(element) : element);
        }
        return added;
    }

    static TreeSet<Integer> setOf(long bits) {
        TreeSet<Integer> made = new TreeSet<>();
        for (int element = 0; element < 63; element++) {
            if ((bits >> element) % 2 == 1) {
                made.add(element);
            }
        }
        return made;
    }

    static long bitsOf(Iterable<Integer> set) {
        long made = 0;
        for (int element : set) {
            made |= 1L << element;
        }
        return made;
    }

    TreeSet<Integer> combine(int how, TreeSet<Integer> one, TreeSet<Integer> other) {
        TreeSet<Integer> made = new TreeSet<>();
        if (how > Sumsetry.RESTRICTED) {
            made.addAll(one);
            if (how == Sumsetry.MEET) {
                made.retainAll(other);
            } else if (how == Sumsetry.JOIN) {
                made.addAll(other);
            } else {
                made.removeAll(other);
            }
            return made;
        }
        for (int x : one) {
            for (int y : other) {
                if (how != Sumsetry.RESTRICTED || x != y) {
                    made.add(plus(x, how == Sumsetry.DIFFERENCE ? less(y) : y));
                }
            }
        }
        return made;
    }

    TreeSet<Integer> move(TreeSet<Integer> set, int times, int element) {
        TreeSet<Integer> made = new TreeSet<>();
        for (int x : set) {
            made.add(plus(multiple(times, x), element));
        }
        return made;
    }

    int ways(TreeSet<Integer> one, TreeSet<Integer> other, int element) {
        int found = 0;
        for (int x : one) {
            for (int y : other) {
                found += plus(x, y) == element ? 1 : 0;
            }
        }
        return found;
    }

    TreeSet<Integer> popular(TreeSet<Integer> one, TreeSet<Integer> other, int least) {
        TreeSet<Integer> found = new TreeSet<>();
        for (int element = 0; element < size(); element++) {
            if (ways(one, other, element) >= least) {
                found.add(element);
            }
        }
        return found;
    }

    /** The energy as the fours x + y = z + w, with x and z of the one set, y and w of the other. */
    int energy(TreeSet<Integer> one, TreeSet<Integer> other) {
        int found = 0;
        for (int x : one) {
            for (int y : other) {
                found += ways(one, other, plus(x, y));
            }
        }
        return found;
    }

    TreeSet<Integer> stabilizer(TreeSet<Integer> set) {
        TreeSet<Integer> found = new TreeSet<>();
        for (int element = 0; element < size(); element++) {
            if (move(set, 1, element).equals(set)) {
                found.add(element);
            }
        }
        return found;
    }

    int excess(TreeSet<Integer> one, TreeSet<Integer> other) {
        TreeSet<Integer> sum = combine(Sumsetry.SUM, one, other);
        TreeSet<Integer> still = stabilizer(sum);
        return sum.size() - combine(Sumsetry.SUM, one, still).size() - combine(Sumsetry.SUM, other, still).size()
                + still.size();
    }

    int slack(TreeSet<Integer> one, TreeSet<Integer> other, TreeSet<Integer> third) {
        return combine(Sumsetry.DIFFERENCE, one, other).size() * combine(Sumsetry.DIFFERENCE, other, third).size()
                - combine(Sumsetry.DIFFERENCE, one, third).size() * other.size();
    }

    TreeSet<Integer> cover(TreeSet<Integer> set, TreeSet<Integer> by) {
        TreeSet<Integer> taken = new TreeSet<>();
        for (int x : set) {
            boolean apart = true;
            for (int ahead : taken) {
                apart &= combine(Sumsetry.MEET, move(by, 1, x), move(by, 1, ahead)).isEmpty();
            }
            if (apart) {
                taken.add(x);
            }
        }
        return taken;
    }

    TreeSet<Integer> sums(TreeSet<Integer> set, int many) {
        TreeSet<Integer> found = new TreeSet<>(List.of(0));
        for (int added = 0; added < many; added++) {
            found = combine(Sumsetry.SUM, found, set);
        }
        return found;
    }

    int order(TreeSet<Integer> set) {
        TreeSet<Integer> found = new TreeSet<>(List.of(0));
        for (int many = 1; many <= 80; many++) {
            found = combine(Sumsetry.SUM, found, set);
            if (found.size() == size()) {
                return many;
            }
        }
        return Sumsetry.NONE;
    }

    TreeSet<Integer> essential(TreeSet<Integer> set) {
        TreeSet<Integer> found = new TreeSet<>();
        for (int element : set) {
            TreeSet<Integer> without = new TreeSet<>(set);
            without.remove(element);
            if (order(set) != Sumsetry.NONE && order(without) == Sumsetry.NONE) {
                found.add(element);
            }
        }
        return found;
    }

    /** All maps, each as what the elements, rising, are given; in the order in which the first one counts. */
    List<int[]> maps(TreeSet<Integer> set, TreeSet<Integer> other, int order) {
        List<int[]> found = new ArrayList<>();
        if (set.size() == other.size()) {
            List<Integer> from = new ArrayList<>(set);
            List<int[]> tuples = new ArrayList<>();
            for (int number = 0; number < Math.pow(from.size(), order); number++) {
                int size = from.size();
                tuples.add(order == 2 ? new int[] {number % size, number / size}
                        : new int[] {number % size, number / size % size, number / size / size});
            }
            allMaps(from, new ArrayList<>(other), new ArrayList<>(), tuples, found);
        }
        return found;
    }

    private void allMaps(List<Integer> from, List<Integer> to, List<Integer> given, List<int[]> tuples,
            List<int[]> found) {
        if (given.size() == from.size()) {
            if (isMap(from, given, tuples)) {
                found.add(given.stream().mapToInt(one -> one).toArray());
            }
            return;
        }
        for (int pick : to) {
            if (!given.contains(pick)) {
                given.add(pick);
                allMaps(from, to, given, tuples, found);
                given.remove(given.size() - 1);
            }
        }
    }

    private boolean isMap(List<Integer> from, List<Integer> given, List<int[]> tuples) {
        int[] sums = new int[tuples.size()];
        int[] images = new int[tuples.size()];
        for (int number = 0; number < sums.length; number++) {
            for (int place : tuples.get(number)) {
                sums[number] = plus(sums[number], from.get(place));
                images[number] = plus(images[number], given.get(place));
            }
            for (int ahead = 0; ahead < number; ahead++) {
                if ((sums[ahead] == sums[number]) != (images[ahead] == images[number])) {
                    return false;
                }
            }
        }
        return true;
    }

    boolean keeps(TreeSet<Integer> set, int rule) {
        if (rule == Sumsetry.APART) {
            return isApart(set);
        }
        for (int x : set) {
            for (int y : set) {
                for (int z : set) {
                    boolean free = plus(x, y) != z;
                    boolean noStep = x == y || y == z || x == z || plus(x, z) != plus(y, y);
                    if (rule == Sumsetry.FREE && !free || rule == Sumsetry.NO_STEPS && !noStep) {
                        return false;
                    }
                    for (int w : set) {
                        boolean same = x == z && y == w || x == w && y == z;
                        if (rule == Sumsetry.SIDON && plus(x, y) == plus(z, w) && !same) {
                            return false;
                        }
                    }
                }
            }
        }
        return true;
    }

    private boolean isApart(TreeSet<Integer> set) {
        if (set.size() > 10) {
            return false; // 2048 subsets have no 2048 sums among 36
        }
        List<Integer> members = new ArrayList<>(set);
        TreeSet<Integer> seen = new TreeSet<>();
        for (int subset = 0; subset < 1 << members.size(); subset++) {
            int sum = 0;
            for (int place = 0; place < members.size(); place++) {
                sum = (subset >> place) % 2 == 1 ? plus(sum, members.get(place)) : sum;
            }
            if (!seen.add(sum)) {
                return false;
            }
        }
        return true;
    }

    TreeSet<Integer> greatest(TreeSet<Integer> set, int rule) {
        List<Integer> members = new ArrayList<>(set);
        TreeSet<Integer> best = new TreeSet<>();
        for (int number = 0; number < 1 << members.size(); number++) {
            TreeSet<Integer> subset = new TreeSet<>();
            for (int place = 0; place < members.size(); place++) {
                if ((number >> place) % 2 == 1) {
                    subset.add(members.get(place));
                }
            }
            boolean better = subset.size() > best.size()
                    || subset.size() == best.size() && bitsOf(subset) < bitsOf(best);
            if (better && keeps(subset, rule)) {
                best = subset;
            }
        }
        return best;
    }

    /** What was asked ahead is kept, since many moves in turn come to the same sets. */
    TreeSet<Integer> wins(int rule, TreeSet<Integer> put) {
        List<Object> asked = List.of(rule, bitsOf(put));
        if (!winsAsked.containsKey(asked)) {
            winsAsked.put(asked, winsOf(rule, put));
        }
        return winsAsked.get(asked);
    }

    private TreeSet<Integer> winsOf(int rule, TreeSet<Integer> put) {
        TreeSet<Integer> found = new TreeSet<>();
        for (int element = 0; element < size(); element++) {
            if (!put.contains(element)) {
                TreeSet<Integer> then = new TreeSet<>(put);
                then.add(element);
                if (keeps(then, rule) && wins(rule, then).isEmpty()) {
                    found.add(element);
                }
            }
        }
        return found;
    }

    int zero(int[] row) {
        int best = 0;
        for (int part = 1; part < 1 << row.length; part++) {
            int sum = 0;
            for (int place = 0; place < row.length; place++) {
                sum = (part >> place) % 2 == 1 ? plus(sum, row[place]) : sum;
            }
            int fewer = Integer.bitCount(best) - Integer.bitCount(part);
            if (sum == 0 && (best == 0 || fewer > 0 || fewer == 0 && part < best)) {
                best = part;
            }
        }
        return best;
    }

    /** Rows are tried with their elements rising, for which part is a zero part has nothing to do with places. */
    int constant() {
        int many = 1;
        while (hasRowWithoutZeroPart(many, new int[0])) {
            many++;
        }
        return many;
    }

    private boolean hasRowWithoutZeroPart(int many, int[] row) {
        if (zero(row) != 0) {
            return false;
        }
        if (row.length == many) {
            return true;
        }
        for (int element = row.length == 0 ? 0 : row[row.length - 1]; element < size(); element++) {
            int[] longer = Arrays.copyOf(row, row.length + 1);
            longer[row.length] = element;
            if (hasRowWithoutZeroPart(many, longer)) {
                return true;
            }
        }
        return false;
    }

    static boolean isPrime(int p) {
        for (int divisor = 2; divisor < p; divisor++) {
            if (p % divisor == 0) {
                return false;
            }
        }
        return p > 1;
    }

    static long power(int base, int exponent, int p) {
        long made = 1 % p;
        for (int time = 0; time < exponent; time++) {
            made = made * base % p;
        }
        return made;
    }

    boolean isRoot(int p, int w) {
        if (p < 2 || p > 9999 || w < 1 || w >= p || !isPrime(p)) {
            return false;
        }
        int least = 1;
        for (long power = w; power != 1; power = power * w % p) {
            least++;
        }
        return least == n;
    }

    int transform(TreeSet<Integer> set, int k, int p, int w) {
        long sum = 0;
        for (int y : set) {
            sum += power(w, k * y, p);
        }
        return (int) (sum % p);
    }

    int waysAnew(TreeSet<Integer> one, TreeSet<Integer> other, int y, int p, int w) {
        long sum = 0;
        for (int k = 0; k < n; k++) {
            sum += (long) transform(one, k, p, w) * transform(other, k, p, w) % p * power(w, n * n - k * y, p) % p;
        }
        int inverse = 1;
        while ((long) inverse * n % p != 1) {
            inverse++;
        }
        return (int) (sum % p * inverse % p);
    }
}
