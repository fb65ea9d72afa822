import java.util.ArrayList;
import java.util.Arrays;
import java.util.List;
import java.util.stream.IntStream;

/**
 * Every call, with each of its arguments at and beyond both ends of its range, all of them with one another: which
 * exception is thrown, where several apply, and that a house is as it was behind each call that is refused, and
 * behind each that only asks.
 */
public final class RefusedTest extends Answers {
    private final String name;
    private final Recipe recipe;
    private final Clauses clauses;
    /** What an untouched house of the recipe shows. */
    private final String untouched;
    private final int[] sets;
    private final int[] elements;

    private RefusedTest(String name, Recipe recipe, long... sets) {
        this.name = name;
        this.recipe = recipe;
        Sumsetry house = recipe.made();
        clauses = new Clauses(house.of(0), house.of(1), sets, house.of(3), house.of(4));
        untouched = State.of(recipe.made());
        int size = clauses.told.size();
        this.sets = edges(LOWEST, -1, 0, sets.length / 2, sets.length - 1, sets.length, 30, HIGHEST);
        elements = edges(LOWEST, -1, 0, size - 1, size, 36, 64, HIGHEST);
    }

    public static void main(String[] args) {
        new RefusedTest("new", Sumsetry::new).all();
        of("one", 1, 1, 2, 1, fill(12, 0), fill(30, 1L));
        of("six", 1, 6, 7, 3, new int[] {1, 2, 4}, 3, bits(1, 3, 5), first(6));
        of("full", 2, 4, 0, 0, fill(12, 7), fill(30, first(3)));
        of("full, with a root", 1, 4, 5, 2, fill(12, 1), fill(30, bits(0, 1, 3)));
        of("ten", 5, 2, 0, 0, fill(11, 3), fill(29, bits(1, 4)));
        of("eleven", 1, 11, 23, 2, new int[] {1, 10}, bits(1, 10), bits(5));
        of("great", 1, 36, 37, 2, new int[] {35}, first(6) << 30, first(7) << 29, first(12) << 24, first(13) << 23,
                first(36));
        of("wide", 36, 1, 0, 0, new int[0], bits(0, 35), first(7));
        REPORT.end("RefusedTest");
    }

    private static void of(String name, int m, int n, int p, int w, int[] row, long... sets) {
        new RefusedTest(name, () -> {
            Sumsetry house = house(m, n, sets);
            if (p != 0) {
                house.root(p, w);
            }
            for (int element : row) {
                house.put(element);
            }
            return house;
        }, sets).all();
    }

    private static int[] fill(int many, int element) {
        int[] row = new int[many];
        Arrays.fill(row, element);
        return row;
    }

    private static long[] fill(int many, long set) {
        long[] sets = new long[many];
        Arrays.fill(sets, set);
        return sets;
    }

    private void all() {
        groups();
        newSets();
        ofOneSet();
        ofTwoSets();
        ofMaps();
        ofRules();
        ofRows();
        ofTransforms();
    }

    private void groups() {
        int[] sides = {LOWEST, -36, -1, 0, 1, 2, 3, 18, 36, 37, 65536, HIGHEST};
        for (int[] t : rows(sides, sides)) {
            makes(text("group", t), Clauses.group(t[0], t[1]), house -> house.group(t[0], t[1]));
        }
        for (int[] t : rows(elements, elements)) {
            asks(text("add", t), clauses.add(t[0], t[1]), house -> house.add(t[0], t[1], true));
            asks(text("subtract", t), clauses.add(t[0], t[1]), house -> house.add(t[0], t[1], false));
        }
        for (int what : new int[] {LOWEST, -1, 0, 1, 2, 3, 4, 5, HIGHEST}) {
            asks(text("of", what), Clauses.of(what), house -> house.of(what));
        }
    }

    private void newSets() {
        for (long bits : someBits()) {
            makes("set(" + bits + ")", clauses.set(bits), house -> house.set(bits));
        }
        for (int[] t : rows(edges(LOWEST, -1, 0, 1, 2, 3, 4, 5, 6, HIGHEST), sets, sets)) {
            makes(text("combine", t), clauses.combine(t[0], t[1], t[2]), house -> house.combine(t[0], t[1], t[2]));
        }
        for (int[] t : rows(sets, edges(LOWEST, -101, -100, 0, 100, 101, HIGHEST), elements)) {
            makes(text("move", t), clauses.move(t[0], t[1], t[2]), house -> house.move(t[0], t[1], t[2]));
        }
    }

    private void ofOneSet() {
        for (int set : sets) {
            Class<?> want = clauses.ofSets(set);
            asks(text("elements", set), want, house -> house.elements(set));
            asks(text("stabilizer", set), want, house -> house.stabilizer(set));
            asks(text("order", set), want, house -> house.order(set));
            asks(text("essential", set), want, house -> house.essential(set));
        }
        for (int[] t : rows(sets, edges(LOWEST, -1, 0, 1, 100, 101, HIGHEST))) {
            asks(text("sums", t), clauses.sums(t[0], t[1]), house -> house.sums(t[0], t[1]));
        }
    }

    private void ofTwoSets() {
        for (int[] t : rows(sets, sets)) {
            Class<?> want = clauses.ofSets(t);
            asks(text("energy", t), want, house -> house.energy(t[0], t[1]));
            asks(text("energyAnew", t), want, house -> house.energyAnew(t[0], t[1]));
            asks(text("excess", t), want, house -> house.excess(t[0], t[1]));
            asks(text("cover", t), want, house -> house.cover(t[0], t[1]));
        }
        for (int[] t : rows(sets, sets, sets)) {
            asks(text("slack", t), clauses.ofSets(t), house -> house.slack(t[0], t[1], t[2]));
        }
        for (int[] t : rows(sets, sets, elements)) {
            asks(text("ways", t), clauses.ways(t[0], t[1], t[2]), house -> house.ways(t[0], t[1], t[2]));
        }
        for (int[] t : rows(sets, sets, edges(LOWEST, -1, 0, 1, 36, 37, HIGHEST))) {
            asks(text("popular", t), clauses.popular(t[0], t[1], t[2]), house -> house.popular(t[0], t[1], t[2]));
        }
    }

    private void ofMaps() {
        int[] orders = {LOWEST, 0, 1, 2, 3, 4, HIGHEST};
        for (int[] t : rows(sets, sets, orders)) {
            asks(text("maps", t), clauses.maps(t[0], t[1], t[2]), house -> house.maps(t[0], t[1], t[2]));
        }
        for (int[] t : rows(sets, sets, orders, elements)) {
            asks(text("image", t), clauses.image(t[0], t[1], t[2], t[3]),
                    house -> house.image(t[0], t[1], t[2], t[3]));
        }
    }

    private void ofRules() {
        int[] rules = {LOWEST, -1, 0, 1, 2, 3, 4, HIGHEST};
        for (int[] t : rows(sets, rules)) {
            asks(text("keeps", t), clauses.keeps(t[0], t[1]), house -> house.keeps(t[0], t[1]));
            asks(text("greatest", t), clauses.greatest(t[0], t[1]), house -> house.greatest(t[0], t[1]));
            asks(text("greatestAnew", t), clauses.greatest(t[0], t[1]), house -> house.greatestAnew(t[0], t[1]));
        }
        for (int rule : rules) {
            for (long bits : someBits()) {
                asks("wins(" + rule + ", " + bits + ")", clauses.wins(rule, bits), house -> house.wins(rule, bits));
            }
        }
    }

    private void ofRows() {
        for (int element : elements) {
            makes(text("put", element), clauses.put(element), house -> house.put(element));
        }
        asks("zero()", null, Sumsetry::zero);
        asks("constant()", clauses.constant(), Sumsetry::constant);
    }

    private void ofTransforms() {
        for (int p : new int[] {LOWEST, -7, 0, 1, 2, 4, 5, 7, 9, 13, 23, 37, 9901, 9973, 9999, 10000, 10007, HIGHEST}) {
            for (int w : edges(LOWEST, -1, 0, 1, 2, 3, 4, p - 1, p, p + 1, HIGHEST)) {
                makes(text("root", p, w), clauses.root(p, w), house -> rootTold(house, p, w));
            }
        }
        for (int[] t : rows(sets, edges(LOWEST, -1, 0, clauses.told.n - 1, clauses.told.n, 36, HIGHEST))) {
            asks(text("transform", t), clauses.transform(t[0], t[1]), house -> house.transform(t[0], t[1]));
        }
        for (int[] t : rows(sets, sets, elements)) {
            asks(text("waysAnew", t), clauses.waysAnew(t[0], t[1], t[2]),
                    house -> house.waysAnew(t[0], t[1], t[2]));
        }
    }

    /** Sets as bits, up to the last element and beyond it, and beyond what an int holds. */
    private long[] someBits() {
        int size = clauses.told.size();
        return new long[] {0, 1, 2, 3, 6, 1L << size - 1, first(size), 1L << size, 1L << size | 1, first(size + 1),
            1L << 32, 1L << 36, 1L << 62, Long.MAX_VALUE, Long.MIN_VALUE, Long.MIN_VALUE | 1, -1};
    }

    /** A call that makes something: where it is refused, the house is as it was. */
    private void makes(String call, Class<?> want, Asked asked) {
        made(call, want, asked, want != null);
    }

    /** A call that only asks: the house is as it was in any case. */
    private void asks(String call, Class<?> want, Asked asked) {
        made(call, want, asked, true);
    }

    private void made(String call, Class<?> want, Asked asked, boolean changesNothing) {
        Sumsetry house = recipe.made();
        due(name + ": " + call, want == null ? "an answer" : want, () -> {
            asked.answer(house);
            return "an answer";
        });
        if (changesNothing) {
            due(name + ": the house behind " + call, untouched, () -> State.of(house));
        }
    }

    private static String text(String call, int... told) {
        return call + Arrays.toString(told);
    }

    private static int[] edges(int... numbers) {
        return IntStream.of(numbers).sorted().distinct().toArray();
    }

    /** All rows with one number of each line. */
    private static List<int[]> rows(int[]... lines) {
        List<int[]> rows = new ArrayList<>();
        rows.add(new int[0]);
        for (int[] line : lines) {
            List<int[]> longer = new ArrayList<>();
            for (int[] row : rows) {
                for (int number : line) {
                    int[] more = Arrays.copyOf(row, row.length + 1);
                    more[row.length] = number;
                    longer.add(more);
                }
            }
            rows = longer;
        }
        return rows;
    }
}
