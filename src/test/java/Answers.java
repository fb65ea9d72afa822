/** What the tests share: houses of one line, sets as bits, and answers that are held against what is due. */
abstract class Answers {
    static final Class<?> INDEX = IndexOutOfBoundsException.class;
    static final Class<?> ARGUMENT = IllegalArgumentException.class;
    static final Class<?> STATE = IllegalStateException.class;
    static final Report REPORT = new Report();
    static final int LOWEST = Integer.MIN_VALUE;
    static final int HIGHEST = Integer.MAX_VALUE;
    private static long seed = 20261119;

    /** A way to make a house, the same one each time. */
    interface Recipe {
        Sumsetry made();
    }

    /** A call of a house that is told when the call is made. */
    interface Asked {
        Object answer(Sumsetry house);
    }

    static void due(String call, Object want, Report.Call made) {
        REPORT.due(call, want, made);
    }

    /** The call throws as is due, and its house is as one that was never called so. */
    static void refused(String call, Class<?> want, Recipe recipe, Asked asked) {
        Sumsetry house = recipe.made();
        due(call, want, () -> asked.answer(house));
        due(call + ", the house then", State.of(recipe.made()), () -> State.of(house));
    }

    /** The answer of a house made for this call alone. */
    static void answered(String call, Object want, Recipe recipe, Asked asked) {
        due(call, want, () -> asked.answer(recipe.made()));
    }

    /** The next of a fixed row of numbers from 0 to below most, so that every run asks the same. */
    static int next(int most) {
        seed = (seed * 6364136223846793005L + 1442695040888963407L);
        return (int) ((seed >>> 33) % most);
    }

    static void rootDue(String call, Object want, Sumsetry house, int p, int w) {
        due(call, want, () -> rootTold(house, p, w));
    }

    static Object rootTold(Sumsetry house, int p, int w) {
        house.root(p, w);
        return "nothing";
    }

    static void stateDue(String when, Sumsetry house, int... want) {
        for (int what = 0; what < want.length; what++) {
            int asked = what;
            due(when + ": of(" + what + ")", want[what], () -> house.of(asked));
        }
    }

    static long bits(int... elements) {
        long made = 0;
        for (int element : elements) {
            made |= 1L << element;
        }
        return made;
    }

    /** The set of so many elements from 0 on. */
    static long first(int many) {
        return (1L << many) - 1;
    }

    /** A house with a group and sets, numbered from 0. */
    static Sumsetry house(int m, int n, long... sets) {
        Sumsetry house = new Sumsetry();
        house.group(m, n);
        for (long one : sets) {
            house.set(one);
        }
        return house;
    }

    /** A house that has 30 sets: those told, and from there on one of the element 0 alone. */
    static Sumsetry fullOfSets(int m, int n, long... sets) {
        Sumsetry house = house(m, n, sets);
        for (int number = sets.length; number < 30; number++) {
            house.set(1);
        }
        return house;
    }

    /** A house with a group and a row. */
    static Sumsetry rowOf(int m, int n, int... row) {
        Sumsetry house = house(m, n);
        for (int element : row) {
            house.put(element);
        }
        return house;
    }

    /** A house with a group of which m is 1, a root and sets. */
    static Sumsetry rooted(int n, int p, int w, long... sets) {
        Sumsetry house = house(1, n, sets);
        house.root(p, w);
        return house;
    }
}
