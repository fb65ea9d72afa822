/**
 * A counting house of sums over a finite group of two numbers: sets, ways, energies, covers, orders,
 * maps, rules, games, rows and transforms. A set is held as bits, that of the element 0 lowest.
 */
public final class Sumsetry {
    public static final int NONE = -1;
    public static final int SUM = 0, DIFFERENCE = 1, RESTRICTED = 2, MEET = 3, JOIN = 4, WITHOUT = 5;
    public static final int FREE = 0, SIDON = 1, NO_STEPS = 2, APART = 3;

    private static final int MOST_ELEMENTS = 36;
    private static final int MOST_SETS = 30;
    private static final int MOST_TIMES = 100;
    private static final int MOST_MAPPED = 6;
    private static final int MOST_SUMS_MAPPED = 56;
    private static final int MOST_SEARCHED = 12;
    private static final int MOST_PLAYED = 10;
    private static final int MOST_PLACES = 12;
    private static final int HIGHEST_PRIME = 9999;
    /** What is no prime up to the highest one has a divisor up to its root. */
    private static final int HIGHEST_DIVISOR = 99;

    private final Group group;
    private final long[] sets;
    private int setCount;
    private final Maps maps;
    private final Game game;
    private final Row row;
    private final Transforms transforms;

    /** A house with the group of 1 and 1, without sets and with an empty row. */
    public Sumsetry() {
        group = new Group();
        sets = new long[MOST_SETS];
        setCount = 0;
        maps = new Maps();
        game = new Game();
        row = new Row();
        transforms = new Transforms();
    }

    // ---- groups, sets

    /** Begins anew with a group; returns how many elements it has. */
    public int group(int m, int n) throws IllegalArgumentException {
        if (!isFrom(1, m, MOST_ELEMENTS) || !isFrom(1, n, MOST_ELEMENTS) || m * n > MOST_ELEMENTS) {
            throw new IllegalArgumentException("no such group");
        }
        group.begin(m, n);
        setCount = 0;
        row.clear();
        transforms.forget();
        return group.size;
    }

    /** Adds two elements, or subtracts the second one. */
    public int add(int one, int other, boolean isSum) throws IndexOutOfBoundsException {
        needElement(one);
        needElement(other);
        return group.plus(one, isSum ? other : group.lessOf(other));
    }

    /** Takes a set up; returns its number. */
    public int set(long elements) throws IllegalArgumentException, IllegalStateException {
        if (elements == 0 || !group.hasAll(elements)) {
            throw new IllegalArgumentException("empty, or what is no element");
        }
        return keepSet(elements);
    }

    /** Makes a set of two; returns its number. */
    public int combine(int how, int one, int other)
            throws IndexOutOfBoundsException, IllegalArgumentException, IllegalStateException {
        needSet(one);
        needSet(other);
        if (!isFrom(SUM, how, WITHOUT)) {
            throw new IllegalArgumentException("no such way to combine");
        }
        return keepSet(combined(how, bitsOf(one), bitsOf(other)));
    }

    /** Makes a set of multiples with an element added; returns its number. */
    public int move(int set, int times, int element)
            throws IndexOutOfBoundsException, IllegalArgumentException, IllegalStateException {
        needSet(set);
        needElement(element);
        if (!isFrom(-MOST_TIMES, times, MOST_TIMES)) {
            throw new IllegalArgumentException("times out of range");
        }
        return keepSet(group.shifted(group.multiples(times, bitsOf(set)), element));
    }

    /** Returns a set. */
    public long elements(int set) throws IndexOutOfBoundsException {
        needSet(set);
        return bitsOf(set);
    }

    // ---- ways, small sums

    /** Returns how many ways there are to an element by two sets. */
    public int ways(int one, int other, int element) throws IndexOutOfBoundsException {
        needSet(one);
        needSet(other);
        needElement(element);
        return group.waysTo(element, bitsOf(one), bitsOf(other));
    }

    /** Returns the set of all elements to which there are at least so many ways; 0 if there are none. */
    public long popular(int one, int other, int least)
            throws IndexOutOfBoundsException, IllegalArgumentException {
        needSet(one);
        needSet(other);
        if (!isFrom(1, least, MOST_ELEMENTS)) {
            throw new IllegalArgumentException("least out of range");
        }
        long found = 0;
        for (int element = 0; element < group.size; element++) {
            if (group.waysTo(element, bitsOf(one), bitsOf(other)) >= least) {
                found |= bit(element);
            }
        }
        return found;
    }

    /** Returns the energy of two sets. */
    public int energy(int one, int other) throws IndexOutOfBoundsException {
        needSet(one);
        needSet(other);
        int sum = 0;
        for (int element = 0; element < group.size; element++) {
            int found = group.waysTo(element, bitsOf(one), bitsOf(other));
            sum += found * found;
        }
        return sum;
    }

    /** Returns the energy of two sets, by the differences within each. */
    public int energyAnew(int one, int other) throws IndexOutOfBoundsException {
        needSet(one);
        needSet(other);
        int sum = 0;
        for (int element = 0; element < group.size; element++) {
            sum += group.waysAsDifference(element, bitsOf(one)) * group.waysAsDifference(element, bitsOf(other));
        }
        return sum;
    }

    /** Returns the stabilizer of a set. */
    public long stabilizer(int set) throws IndexOutOfBoundsException {
        needSet(set);
        return group.unmoved(bitsOf(set));
    }

    /** Returns the excess of two sets. */
    public int excess(int one, int other) throws IndexOutOfBoundsException {
        needSet(one);
        needSet(other);
        long sum = group.sumOf(bitsOf(one), bitsOf(other));
        long still = group.unmoved(sum);
        return Long.bitCount(sum) - Long.bitCount(group.sumOf(bitsOf(one), still))
                - Long.bitCount(group.sumOf(bitsOf(other), still)) + Long.bitCount(still);
    }

    /** Returns the slack of three sets. */
    public int slack(int one, int other, int third) throws IndexOutOfBoundsException {
        needSet(one);
        needSet(other);
        needSet(third);
        long a = bitsOf(one);
        long b = bitsOf(other);
        long c = bitsOf(third);
        return Long.bitCount(group.differenceOf(a, b)) * Long.bitCount(group.differenceOf(b, c))
                - Long.bitCount(group.differenceOf(a, c)) * Long.bitCount(b);
    }

    /** Returns the cover of a set by another one. */
    public long cover(int set, int by) throws IndexOutOfBoundsException {
        needSet(set);
        needSet(by);
        long taken = 0;
        long covered = 0;
        for (int element = 0; element < group.size; element++) {
            long reach = group.shifted(bitsOf(by), element);
            if (has(bitsOf(set), element) && (reach & covered) == 0) {
                taken |= bit(element);
                covered |= reach;
            }
        }
        return taken;
    }

    // ---- orders, maps

    /** Returns the sums of so many elements of a set. */
    public long sums(int set, int many) throws IndexOutOfBoundsException, IllegalArgumentException {
        needSet(set);
        if (!isFrom(1, many, MOST_TIMES)) {
            throw new IllegalArgumentException("many out of range");
        }
        long found = bitsOf(set);
        for (int added = 1; added < many; added++) {
            found = group.sumOf(found, bitsOf(set));
        }
        return found;
    }

    /** Returns the order of a set; NONE if it has none. */
    public int order(int set) throws IndexOutOfBoundsException {
        needSet(set);
        return group.orderOf(bitsOf(set));
    }

    /** Returns the set of the essential elements of a set; 0 if there are none, or it has no order. */
    public long essential(int set) throws IndexOutOfBoundsException {
        needSet(set);
        long all = bitsOf(set);
        if (group.orderOf(all) == NONE) {
            return 0;
        }
        long found = 0;
        for (int element = 0; element < group.size; element++) {
            if (has(all, element) && group.orderOf(all & ~bit(element)) == NONE) {
                found |= bit(element);
            }
        }
        return found;
    }

    /** Returns what the first map gives an element; NONE if there is no map, or the set lacks the element. */
    public int image(int set, int other, int order, int element)
            throws IndexOutOfBoundsException, IllegalArgumentException, IllegalStateException {
        needSet(set);
        needSet(other);
        needElement(element);
        needMappable(set, other, order);
        maps.findAll(group, bitsOf(set), bitsOf(other), order);
        return maps.firstImage(element);
    }

    /** Tells how many maps there are. */
    public int maps(int set, int other, int order)
            throws IndexOutOfBoundsException, IllegalArgumentException, IllegalStateException {
        needSet(set);
        needSet(other);
        needMappable(set, other, order);
        maps.findAll(group, bitsOf(set), bitsOf(other), order);
        return maps.found;
    }

    // ---- rules, games

    /** Tells whether a set keeps a rule. */
    public boolean keeps(int set, int rule) throws IndexOutOfBoundsException {
        needSet(set);
        needRule(rule);
        return Rules.hold(group, bitsOf(set), rule);
    }

    /** Returns the greatest subset of a set by a rule; 0 if it is the empty one. */
    public long greatest(int set, int rule) throws IndexOutOfBoundsException, IllegalStateException {
        needSet(set);
        needRule(rule);
        needSearchable(set);
        return Search.byBranches(group, bitsOf(set), rule);
    }

    /** Returns the greatest subset of a set by a rule, found by going through all subsets. */
    public long greatestAnew(int set, int rule) throws IndexOutOfBoundsException, IllegalStateException {
        needSet(set);
        needRule(rule);
        needSearchable(set);
        return Search.byAll(group, bitsOf(set), rule);
    }

    /** Returns the set of the elements that win the game of a rule when put next; 0 if there are none. */
    public long wins(int rule, long elements)
            throws IndexOutOfBoundsException, IllegalArgumentException, IllegalStateException {
        needRule(rule);
        if (!group.hasAll(elements) || !Rules.hold(group, elements, rule)) {
            throw new IllegalArgumentException("what is no element, or the rule is not kept");
        }
        if (group.size > MOST_PLAYED) {
            throw new IllegalStateException("the group is too great");
        }
        return game.winning(group, (int) elements, rule);
    }

    // ---- rows

    /** Puts an element behind the row; returns how many the row has then. */
    public int put(int element) throws IndexOutOfBoundsException, IllegalStateException {
        needElement(element);
        if (row.count >= MOST_PLACES) {
            throw new IllegalStateException("the row is full");
        }
        row.append(element);
        return row.count;
    }

    /** Empties the row; returns how many it had. */
    public int wipe() {
        int had = row.count;
        row.clear();
        return had;
    }

    /** Returns the zero part of the row with the fewest places, of several the lowest; 0 if there is none. */
    public int zero() {
        return row.leastZeroPart(group);
    }

    /** Returns the constant of the group. */
    public int constant() throws IllegalStateException {
        if (group.size > MOST_PLAYED) {
            throw new IllegalStateException("the group is too great");
        }
        return group.zeroConstant();
    }

    // ---- transforms

    /** Tells a prime and a root. */
    public void root(int p, int w) throws IllegalArgumentException, IllegalStateException {
        if (!isFrom(2, p, HIGHEST_PRIME) || !isFrom(1, w, p - 1) || !Transforms.isPrime(p)
                || !Transforms.isRoot(p, w, group.n)) {
            throw new IllegalArgumentException("no prime, or no root of it");
        }
        if (group.m != 1) {
            throw new IllegalStateException("m is not 1");
        }
        transforms.begin(p, w, group.n);
    }

    /** Returns the transform of a set. */
    public int transform(int set, int k)
            throws IndexOutOfBoundsException, IllegalArgumentException, IllegalStateException {
        needSet(set);
        if (!isFrom(0, k, group.n - 1)) {
            throw new IllegalArgumentException("k out of range");
        }
        needRoot();
        return transforms.valueAt(k, bitsOf(set));
    }

    /** Returns the ways to an element by two sets, modulo the prime, by transforms. */
    public int waysAnew(int one, int other, int element)
            throws IndexOutOfBoundsException, IllegalStateException {
        needSet(one);
        needSet(other);
        needElement(element);
        needRoot();
        return transforms.waysTo(element, bitsOf(one), bitsOf(other));
    }

    /** Tells of the house: 0 m, 1 n, 2 the sets, 3 the row's elements, 4 the prime. */
    public int of(int what) throws IllegalArgumentException {
        switch (what) {
            case 0:
                return group.m;
            case 1:
                return group.n;
            case 2:
                return setCount;
            case 3:
                return row.count;
            case 4:
                return transforms.prime;
            default:
                throw new IllegalArgumentException("what out of range");
        }
    }

    // ---- what the calls need

    private void needSet(int set) throws IndexOutOfBoundsException {
        if (set < 0 || set >= setCount) {
            throw new IndexOutOfBoundsException("no such set");
        }
    }

    private void needElement(int element) throws IndexOutOfBoundsException {
        if (element < 0 || element >= group.size) {
            throw new IndexOutOfBoundsException("no such element");
        }
    }

    private void needRule(int rule) throws IndexOutOfBoundsException {
        if (!isFrom(FREE, rule, APART)) {
            throw new IndexOutOfBoundsException("no such rule");
        }
    }

    private void needMappable(int set, int other, int order)
            throws IllegalArgumentException, IllegalStateException {
        if (!isFrom(2, order, 3)) {
            throw new IllegalArgumentException("order out of range");
        }
        if (Long.bitCount(bitsOf(set)) > MOST_MAPPED || Long.bitCount(bitsOf(other)) > MOST_MAPPED) {
            throw new IllegalStateException("a set is too great");
        }
    }

    private void needSearchable(int set) throws IllegalStateException {
        if (Long.bitCount(bitsOf(set)) > MOST_SEARCHED) {
            throw new IllegalStateException("the set is too great");
        }
    }

    private void needRoot() throws IllegalStateException {
        if (transforms.prime == 0) {
            throw new IllegalStateException("no root was told");
        }
    }

    private long bitsOf(int set) {
        return set >= 0 && set < sets.length ? sets[set] : 0;
    }

    private int keepSet(long elements) throws IllegalStateException {
        if (elements == 0 || !isFrom(0, setCount, sets.length - 1)) {
            throw new IllegalStateException("empty, or too many sets");
        }
        sets[setCount] = elements;
        setCount++;
        return setCount - 1;
    }

    private long combined(int how, long one, long other) {
        switch (how) {
            case SUM:
                return group.sumOf(one, other);
            case DIFFERENCE:
                return group.differenceOf(one, other);
            case RESTRICTED:
                return group.unlikeSumOf(one, other);
            case MEET:
                return one & other;
            case JOIN:
                return one | other;
            default:
                return one & ~other;
        }
    }

    // ---- numbers, bits and rows, read and written without a way to fail

    private static boolean isFrom(int least, int number, int most) {
        return least <= number && number <= most;
    }

    /** A number modulo another one, never below 0. */
    private static int rest(int number, int by) {
        if (by < 1) {
            return 0;
        }
        int left = number % by;
        return left < 0 ? left + by : left;
    }

    private static int share(int number, int by) {
        return by < 1 ? 0 : number / by;
    }

    private static long bit(int element) {
        return 1L << element;
    }

    private static boolean has(long set, int element) {
        return (set >>> element & 1) != 0;
    }

    private static int lowest(long set) {
        return Long.numberOfTrailingZeros(set);
    }

    private static long withoutLowest(long set) {
        return set & (set - 1);
    }

    private static int at(int[] cells, int place) {
        return place >= 0 && place < cells.length ? cells[place] : 0;
    }

    private static void lay(int[] cells, int place, int what) {
        if (place >= 0 && place < cells.length) {
            cells[place] = what;
        }
    }

    /** A group, and what its addition alone makes of elements and sets. */
    private static final class Group {
        int m;
        int n;
        int size;
        long all;
        /** All elements of which y is 0. */
        private long firstOfRows;
        /** All elements that, added to themselves, are the element 0. */
        long twiceZero;
        /** Less each element. */
        private final int[] less = new int[MOST_ELEMENTS];

        Group() {
            begin(1, 1);
        }

        void begin(int newM, int newN) {
            m = newM;
            n = newN;
            size = m * n;
            all = bit(size) - 1;
            firstOfRows = 0;
            for (int x = 0; x < m; x++) {
                firstOfRows |= bit(n * x);
            }
            twiceZero = 0;
            for (int element = 0; element < size; element++) {
                lay(less, element, multiple(-1, element));
                if (multiple(2, element) == 0) {
                    twiceZero |= bit(element);
                }
            }
        }

        boolean hasAll(long set) {
            return (set & ~all) == 0;
        }

        int plus(int one, int other) {
            int x = rest(share(one, n) + share(other, n), m);
            int y = rest(rest(one, n) + rest(other, n), n);
            return n * x + y;
        }

        int lessOf(int element) {
            return at(less, element);
        }

        int multiple(int times, int element) {
            return n * rest(times * share(element, n), m) + rest(times * rest(element, n), n);
        }

        long multiples(int times, long set) {
            long made = 0;
            for (int element = 0; element < size; element++) {
                if (has(set, element)) {
                    made |= bit(multiple(times, element));
                }
            }
            return made;
        }

        /**
         * A set with an element added to each of its own. The bits of one x stand together, n of them:
         * they turn by the element's y within themselves, then the whole turns by its x.
         */
        long shifted(long set, int element) {
            int up = rest(element, n);
            int across = element - up;
            long turnedOver = firstOfRows * (bit(up) - 1);
            long turned = set << up & ~turnedOver & all | set >>> n - up & turnedOver;
            return (turned << across | turned >>> size - across) & all;
        }

        /** Less each element of a set. */
        long mirrored(long set) {
            long made = 0;
            long left = set;
            for (int many = Long.bitCount(set); many > 0; many--) {
                made |= bit(lessOf(lowest(left)));
                left = withoutLowest(left);
            }
            return made;
        }

        long sumOf(long one, long other) {
            long sum = 0;
            long left = other;
            for (int many = Long.bitCount(other); many > 0; many--) {
                sum |= shifted(one, lowest(left));
                left = withoutLowest(left);
            }
            return sum;
        }

        long differenceOf(long one, long other) {
            return sumOf(one, mirrored(other));
        }

        long unlikeSumOf(long one, long other) {
            long sum = 0;
            for (int element = 0; element < size; element++) {
                if (has(other, element)) {
                    sum |= shifted(one & ~bit(element), element);
                }
            }
            return sum;
        }

        int waysTo(int element, long one, long other) {
            return Long.bitCount(one & shifted(mirrored(other), element));
        }

        int waysAsDifference(int element, long set) {
            return Long.bitCount(set & shifted(set, element));
        }

        long unmoved(long set) {
            long found = 0;
            for (int element = 0; element < size; element++) {
                if (shifted(set, element) == set) {
                    found |= bit(element);
                }
            }
            return found;
        }

        /** Sums of one more element are more, or as many for ever: an order is never above the size. */
        int orderOf(long set) {
            long found = set;
            for (int many = 1; many <= size; many++) {
                if (found == all) {
                    return many;
                }
                found = sumOf(found, set);
            }
            return NONE;
        }

        /**
         * By Olson's theorem a group of two numbers, of which the one divides the other, has the constant
         * of their sum less 1; and that of m and n is that of their greatest common divisor and least
         * common multiple.
         */
        int zeroConstant() {
            int common = 1;
            for (int divisor = 2; divisor <= m; divisor++) {
                if (rest(m, divisor) == 0 && rest(n, divisor) == 0) {
                    common = divisor;
                }
            }
            return common + share(size, common) - 1;
        }
    }

    /** The rules that sets may keep; what keeps one, keeps it with fewer elements too. */
    private static final class Rules {
        static boolean hold(Group group, long set, int rule) {
            switch (rule) {
                case FREE:
                    return isFree(group, set);
                case SIDON:
                    return isSidon(group, set);
                case NO_STEPS:
                    return hasNoSteps(group, set);
                case APART:
                    return isApart(group, set);
                default:
                    return false;
            }
        }

        private static boolean isFree(Group group, long set) {
            long left = set;
            for (int many = Long.bitCount(set); many > 0; many--) {
                if ((group.shifted(set, lowest(left)) & set) != 0) {
                    return false;
                }
                left = withoutLowest(left);
            }
            return true;
        }

        /** Each element is added to itself and those above it, so that every two meet once. */
        private static boolean isSidon(Group group, long set) {
            long sums = 0;
            long left = set;
            for (int many = Long.bitCount(set); many > 0; many--) {
                long more = group.shifted(left, lowest(left));
                if ((more & sums) != 0) {
                    return false;
                }
                sums |= more;
                left = withoutLowest(left);
            }
            return true;
        }

        /**
         * Round a middle y, the partner of x is y + y - x. What differs from y by an element that is 0
         * when added to itself, y among them, is its own partner and makes no steps.
         */
        private static boolean hasNoSteps(Group group, long set) {
            long less = group.mirrored(set);
            long left = set;
            for (int many = Long.bitCount(set); many > 0; many--) {
                int middle = lowest(left);
                long partners = group.shifted(group.shifted(less, middle), middle);
                long ownPartners = group.shifted(group.twiceZero, middle);
                if ((set & partners & ~ownPartners) != 0) {
                    return false;
                }
                left = withoutLowest(left);
            }
            return true;
        }

        private static boolean isApart(Group group, long set) {
            long sums = 1;
            long left = set;
            for (int many = Long.bitCount(set); many > 0; many--) {
                long more = group.shifted(sums, lowest(left));
                if ((more & sums) != 0) {
                    return false;
                }
                sums |= more;
                left = withoutLowest(left);
            }
            return true;
        }
    }

    /** Greatest subsets by a rule. */
    private static final class Search {
        static long byBranches(Group group, long set, int rule) {
            return branch(group, rule, set, 0, 0);
        }

        /**
         * The greatest of the best so far and of what is chosen with some of what is open. It settles the
         * highest open element, without it first: so subsets come by rising numbers, and the first one of
         * the most elements is the lowest. Each level has one open element less, of twelve at most.
         */
        private static long branch(Group group, int rule, long open, long chosen, long best) {
            if (Long.bitCount(chosen) + Long.bitCount(open) <= Long.bitCount(best)) {
                return best;
            }
            if (open == 0 || Long.bitCount(open) > MOST_SEARCHED) {
                return chosen;
            }
            long next = Long.highestOneBit(open);
            long without = branch(group, rule, open & ~next, chosen, best);
            if (!Rules.hold(group, chosen | next, rule)) {
                return without;
            }
            return branch(group, rule, open & ~next, chosen | next, without);
        }

        /** Less the set, the bits that are not the set's carry over: what is left are the subsets, rising. */
        static long byAll(Group group, long set, int rule) {
            long most = 0;
            long subset = 0;
            int count = 1 << Math.min(Long.bitCount(set), MOST_SEARCHED);
            for (int tried = 0; tried < count; tried++) {
                if (Long.bitCount(subset) > Long.bitCount(most) && Rules.hold(group, subset, rule)) {
                    most = subset;
                }
                subset = subset - set & set;
            }
            return most;
        }
    }

    /** The game of a rule, in a small group. */
    private static final class Game {
        /** For a set as bits: 1 if it keeps the rule and who is to put one then loses. */
        private final int[] lost = new int[1 << MOST_PLAYED];

        long winning(Group group, int put, int rule) {
            for (int now = (int) group.all; now > put; now--) {
                if ((now & put) == put) {
                    lay(lost, now, isLost(group, now, rule) ? 1 : 0);
                }
            }
            long found = 0;
            for (int element = 0; element < group.size; element++) {
                if (leadsToLost(put, element)) {
                    found |= bit(element);
                }
            }
            return found;
        }

        private boolean isLost(Group group, int now, int rule) {
            if (!Rules.hold(group, now, rule)) {
                return false;
            }
            for (int element = 0; element < group.size; element++) {
                if (leadsToLost(now, element)) {
                    return false;
                }
            }
            return true;
        }

        private boolean leadsToLost(int now, int element) {
            return !has(now, element) && at(lost, now | 1 << element) == 1;
        }
    }

    /** Maps that keep sums of an order, from one small set to another. */
    private static final class Maps {
        private final int[] from = new int[MOST_MAPPED];
        private final int[] to = new int[MOST_MAPPED];
        private final int[] given = new int[MOST_MAPPED];
        private final int[] firstGiven = new int[MOST_MAPPED];
        /** For each sum of the first set, by number, the number of the first sum like it. */
        private final int[] firstAlike = new int[MOST_SUMS_MAPPED];
        private final int[] sumGiven = new int[MOST_SUMS_MAPPED];
        private final int[] firstTo = new int[MOST_ELEMENTS];
        private int many;
        private int order;
        int found;

        void findAll(Group group, long set, long other, int newOrder) {
            many = lineUp(group, set, from);
            order = newOrder;
            found = 0;
            if (lineUp(group, other, to) == many) {
                compareSums(group);
                give(this, group, 0, 0, 0);
            }
        }

        int firstImage(int element) {
            for (int place = 0; place < many; place++) {
                if (found > 0 && at(from, place) == element) {
                    return at(firstGiven, place);
                }
            }
            return NONE;
        }

        private static int lineUp(Group group, long set, int[] line) {
            int count = 0;
            for (int element = 0; element < group.size; element++) {
                if (has(set, element)) {
                    lay(line, count, element);
                    count++;
                }
            }
            return count;
        }

        private void compareSums(Group group) {
            for (int element = 0; element < group.size; element++) {
                lay(firstTo, element, NONE);
            }
            int number = 0;
            for (int high = 0; high < many; high++) {
                for (int middle = 0; middle <= high; middle++) {
                    for (int low = 0; low <= lastLow(middle); low++) {
                        int sum = sumOf(group, from, high, middle, low);
                        if (at(firstTo, sum) == NONE) {
                            lay(firstTo, sum, number);
                        }
                        lay(firstAlike, number, at(firstTo, sum));
                        number++;
                    }
                }
            }
        }

        /** Gives the member at a place each element in turn that none ahead of it was given. */
        private static void give(Maps maps, Group group, int place, long taken, long sums) {
            if (place >= maps.many || place >= MOST_MAPPED) {
                return;
            }
            for (int pick = 0; pick < maps.many; pick++) {
                lay(maps.given, place, at(maps.to, pick));
                long more = has(taken, pick) ? NONE : maps.sumsWith(group, place, sums);
                if (more != NONE && place + 1 == maps.many) {
                    maps.noteMap();
                } else if (more != NONE) {
                    give(maps, group, place + 1, taken | bit(pick), more);
                }
            }
        }

        private void noteMap() {
            if (found == 0) {
                for (int place = 0; place < many; place++) {
                    lay(firstGiven, place, at(given, place));
                }
            }
            found++;
        }

        /** All sums of what is given up to a place, as bits, from those ahead of it; NONE if they clash. */
        private long sumsWith(Group group, int place, long sums) {
            long all = sums;
            int number = sumsAhead(place);
            for (int middle = 0; middle <= place; middle++) {
                for (int low = 0; low <= lastLow(middle); low++) {
                    int sum = sumOf(group, given, place, middle, low);
                    int first = at(firstAlike, number);
                    if (first == number ? has(all, sum) : at(sumGiven, first) != sum) {
                        return NONE;
                    }
                    lay(sumGiven, number, sum);
                    all |= bit(sum);
                    number++;
                }
            }
            return all;
        }

        /** How many sums there are of the members ahead of a place. */
        private int sumsAhead(int place) {
            int pairs = place * (place + 1) / 2;
            return order == 3 ? pairs * (place + 2) / 3 : pairs;
        }

        private int lastLow(int middle) {
            return order == 3 ? middle : 0;
        }

        private int sumOf(Group group, int[] line, int high, int middle, int low) {
            int pair = group.plus(at(line, high), at(line, middle));
            return order == 3 ? group.plus(pair, at(line, low)) : pair;
        }
    }

    /** The row, and its parts that add up to nothing. */
    private static final class Row {
        private final int[] places = new int[MOST_PLACES];
        private final int[] partSums = new int[1 << MOST_PLACES];
        int count;

        void clear() {
            count = 0;
        }

        void append(int element) {
            lay(places, count, element);
            count++;
        }

        int leastZeroPart(Group group) {
            int best = 0;
            int parts = 1 << Math.min(count, MOST_PLACES);
            for (int part = 1; part < parts; part++) {
                int added = at(places, Integer.numberOfTrailingZeros(part));
                int sum = group.plus(at(partSums, part & part - 1), added);
                lay(partSums, part, sum);
                if (sum == 0 && (best == 0 || Integer.bitCount(part) < Integer.bitCount(best))) {
                    best = part;
                }
            }
            return best;
        }
    }

    /** Transforms by a root of a prime, for a group of which m is 1. */
    private static final class Transforms {
        /** 0 if none was told. */
        int prime;
        private int n;
        private final int[] powers = new int[MOST_ELEMENTS];

        static boolean isPrime(int p) {
            for (int divisor = 2; divisor <= HIGHEST_DIVISOR && divisor < p; divisor++) {
                if (rest(p, divisor) == 0) {
                    return false;
                }
            }
            return p > 1;
        }

        static boolean isRoot(int p, int w, int n) {
            int power = 1;
            for (int exponent = 1; exponent <= n; exponent++) {
                power = rest(power * w, p);
                if (power == 1) {
                    return exponent == n;
                }
            }
            return false;
        }

        void begin(int p, int w, int newN) {
            prime = p;
            n = newN;
            int power = 1;
            for (int exponent = 0; exponent < n; exponent++) {
                lay(powers, exponent, power);
                power = rest(power * w, prime);
            }
        }

        void forget() {
            prime = 0;
        }

        int valueAt(int k, long set) {
            int sum = 0;
            for (int y = 0; y < n; y++) {
                if (has(set, y)) {
                    sum += powerOf(k * y);
                }
            }
            return rest(sum, prime);
        }

        int waysTo(int y, long one, long other) {
            int sum = 0;
            for (int k = 0; k < n; k++) {
                int product = rest(valueAt(k, one) * valueAt(k, other), prime);
                sum += rest(product * powerOf(n * n - k * y), prime);
            }
            // a root's n divides the prime less 1, so n times this is 1 more than a multiple of the prime
            int inverse = prime - share(prime - 1, n);
            return rest(rest(sum, prime) * inverse, prime);
        }

        /** The powers come again after n of them. */
        private int powerOf(int exponent) {
            return at(powers, rest(exponent, n));
        }
    }
}
