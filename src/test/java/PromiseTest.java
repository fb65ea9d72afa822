/** Each promise by its number: ordinary inputs, the edges that the document names, and wrong inputs. */
public final class PromiseTest extends Answers {
    public static void main(String[] args) {
        newObject();
        group();
        add();
        set();
        combine();
        combineRefused();
        move();
        elements();
        ways();
        popular();
        energy();
        stabilizer();
        excess();
        slack();
        cover();
        sums();
        order();
        essential();
        image();
        mapsRefused();
        maps();
        keepsFreeAndSidon();
        keepsNoStepsAndApart();
        greatest();
        wins();
        winsRefused();
        put();
        wipe();
        zero();
        constant();
        root();
        transform();
        waysAnew();
        of();
        fullHouse();
        wrongSetsAndElements();
        REPORT.end("PromiseTest");
    }

    private static void newObject() {
        Sumsetry house = new Sumsetry();
        stateDue("1 new", house, 1, 1, 0, 0, 0);
        due("1 zero of nothing", 0, () -> house.zero());
        due("1 elements(0)", INDEX, () -> house.elements(0));
        due("1 set(1)", 0, () -> house.set(1));
        due("1 constant", 1, () -> house.constant());
        due("1 add(0, 0)", 0, () -> house.add(0, 0, true));
        due("1 put(1)", INDEX, () -> house.put(1));
    }

    private static void group() {
        int[][] wrong = {{0, 1}, {1, 0}, {37, 1}, {1, 37}, {7, 6}, {6, 7}, {-1, -1}, {36, 2}, {-1, 1},
            {LOWEST, 1}, {HIGHEST, HIGHEST}, {65536, 65536}, {1, LOWEST}};
        Sumsetry house = house(1, 6, 1L, 2L);
        house.put(3);
        house.root(7, 3);
        for (int[] one : wrong) {
            due("2 group(" + one[0] + ", " + one[1] + ")", ARGUMENT, () -> house.group(one[0], one[1]));
        }
        stateDue("2 after wrong groups", house, 1, 6, 2, 1, 7);
        due("2 elements(1) after wrong groups", 2L, () -> house.elements(1));
        due("2 transform after wrong groups", 3, () -> house.transform(1, 1));
        due("2 group(1, 6) again", 6, () -> house.group(1, 6));
        stateDue("2 begun anew", house, 1, 6, 0, 0, 0);
        due("2 elements(0) begun anew", INDEX, () -> house.elements(0));
        due("2 group(36, 1)", 36, () -> house.group(36, 1));
        due("2 group(1, 36)", 36, () -> house.group(1, 36));
        due("2 group(6, 6)", 36, () -> house.group(6, 6));
        due("2 group(4, 9)", 36, () -> house.group(4, 9));
        due("2 group(5, 7)", 35, () -> house.group(5, 7));
        due("2 group(1, 1)", 1, () -> house.group(1, 1));
        stateDue("2 the least", house, 1, 1, 0, 0, 0);
    }

    private static void add() {
        Sumsetry house = house(2, 4);
        due("3 add(5, 7, true)", 0, () -> house.add(5, 7, true));
        due("3 add(5, 7, false)", 2, () -> house.add(5, 7, false));
        due("3 add(3, 1, true)", 0, () -> house.add(3, 1, true));
        due("3 add(4, 4, true)", 0, () -> house.add(4, 4, true));
        due("3 add(0, 1, false)", 3, () -> house.add(0, 1, false));
        due("3 add(1, 6, false)", 7, () -> house.add(1, 6, false));
        due("3 add(-1, 0, true)", INDEX, () -> house.add(-1, 0, true));
        due("3 add(0, 8, false)", INDEX, () -> house.add(0, 8, false));
        due("3 add(8, 0, true)", INDEX, () -> house.add(8, 0, true));
        due("3 add(0, -1, true)", INDEX, () -> house.add(0, LOWEST, true));
        house.group(3, 1);
        due("3 of 3 and 1: add(2, 2, true)", 1, () -> house.add(2, 2, true));
        due("3 of 3 and 1: add(0, 1, false)", 2, () -> house.add(0, 1, false));
        house.group(3, 2);
        due("3 of 3 and 2: add(5, 4, true)", 3, () -> house.add(5, 4, true));
    }

    private static void set() {
        Sumsetry house = house(1, 5);
        due("4 set(0)", ARGUMENT, () -> house.set(0));
        due("4 set(32)", ARGUMENT, () -> house.set(32));
        due("4 set(33)", ARGUMENT, () -> house.set(33));
        due("4 set(-1)", ARGUMENT, () -> house.set(-1));
        due("4 set of the highest bit", ARGUMENT, () -> house.set(Long.MIN_VALUE | 1));
        due("4 set of a bit above an int", ARGUMENT, () -> house.set(1L << 32));
        due("4 no set", 0, () -> house.of(2));
        for (int number = 0; number < 30; number++) {
            int want = number;
            due("4 set, the number " + number, want, () -> house.set(want % 31 + 1));
        }
        due("4 set with 30", STATE, () -> house.set(1));
        due("4 set(0) with 30", ARGUMENT, () -> house.set(0));
        due("4 30 sets", 30, () -> house.of(2));
        due("4 the last set", 30L, () -> house.elements(29));
        house.group(1, 36);
        due("4 all of 36", 0, () -> house.set((1L << 36) - 1));
        due("4 more than 36", ARGUMENT, () -> house.set(1L << 36));
        due("4 the same set again", 1, () -> house.set((1L << 36) - 1));
    }

    private static void combine() {
        // of 1 and 10: A = {0, 1, 4}, B = {1, 4}
        Sumsetry house = house(1, 10, bits(0, 1, 4), bits(1, 4));
        long[] want = {bits(1, 4, 2, 5, 8), bits(9, 6, 0, 7, 3), bits(1, 4, 5), bits(1, 4), bits(0, 1, 4), bits(0)};
        for (int how = Sumsetry.SUM; how <= Sumsetry.WITHOUT; how++) {
            int asked = how;
            due("5 combine(" + how + ", 0, 1)", 2 + how, () -> house.combine(asked, 0, 1));
            due("5 what combine(" + how + ", 0, 1) made", want[how], () -> house.elements(2 + asked));
        }
        house.combine(Sumsetry.DIFFERENCE, 1, 0);
        due("5 the other difference", bits(1, 0, 7, 4, 3), () -> house.elements(8));
        house.combine(Sumsetry.RESTRICTED, 0, 0);
        due("5 restricted with itself", bits(1, 4, 5), () -> house.elements(9));
        house.set(bits(2, 9));
        house.combine(Sumsetry.JOIN, 1, 10);
        due("5 joined", bits(1, 2, 4, 9), () -> house.elements(11));
        Sumsetry two = house(2, 2, bits(1), bits(0, 1, 2, 3));
        two.combine(Sumsetry.RESTRICTED, 0, 1);
        due("5 restricted of 2 and 2", bits(1, 2, 3), () -> two.elements(2));
        Sumsetry wide = house(4, 9, 1L << 35, bits(9, 35));
        wide.combine(Sumsetry.SUM, 0, 1);
        due("5 a sum of 4 and 9", bits(8, 2 * 9 + 7), () -> wide.elements(2));
    }

    private static void combineRefused() {
        Sumsetry house = house(1, 10, bits(0, 1), bits(5), bits(0, 1, 2));
        due("5 no such way", ARGUMENT, () -> house.combine(6, 0, 1));
        due("5 no such way below", ARGUMENT, () -> house.combine(-1, 0, 1));
        due("5 no set, no way", INDEX, () -> house.combine(6, 0, 3));
        due("5 no set ahead", INDEX, () -> house.combine(0, -1, 0));
        due("5 an empty meet", STATE, () -> house.combine(Sumsetry.MEET, 0, 1));
        due("5 an empty without", STATE, () -> house.combine(Sumsetry.WITHOUT, 0, 2));
        due("5 an empty restricted", STATE, () -> house.combine(Sumsetry.RESTRICTED, 1, 1));
        due("5 nothing made", 3, () -> house.of(2));
        while (house.of(2) < 30) {
            house.set(1);
        }
        due("5 with 30", STATE, () -> house.combine(Sumsetry.SUM, 0, 1));
        due("5 with 30, no way", ARGUMENT, () -> house.combine(9, 0, 1));
        due("5 with 30, no set", INDEX, () -> house.combine(9, 30, 1));
    }

    private static void move() {
        Sumsetry house = house(1, 12, bits(0, 1, 2));
        due("6 move(0, -2, 5)", 1, () -> house.move(0, -2, 5));
        due("6 it made", bits(5, 3, 1), () -> house.elements(1));
        house.move(0, 0, 7);
        due("6 no times", bits(7), () -> house.elements(2));
        house.move(0, 100, 0);
        due("6 a hundred times", bits(0, 4, 8), () -> house.elements(3));
        house.move(0, -100, 1);
        due("6 less a hundred times", bits(1, 9, 5), () -> house.elements(4));
        due("6 no such set", INDEX, () -> house.move(5, 1, 0));
        due("6 no such element", INDEX, () -> house.move(0, 101, 12));
        due("6 element below 0", INDEX, () -> house.move(0, 1, -1));
        due("6 times above", ARGUMENT, () -> house.move(0, 101, 0));
        due("6 times below", ARGUMENT, () -> house.move(0, -101, 0));
        while (house.of(2) < 30) {
            house.set(1);
        }
        due("6 with 30", STATE, () -> house.move(0, 1, 0));
        due("6 with 30, times above", ARGUMENT, () -> house.move(0, 101, 0));
        due("6 still 30", 30, () -> house.of(2));
        Sumsetry pair = house(2, 4, bits(1, 4, 7));
        pair.move(0, 3, 5);
        due("6 of 2 and 4", bits(4, 1, 2), () -> pair.elements(1));
    }

    private static void elements() {
        Sumsetry house = house(1, 36, bits(0, 35), 1L << 35);
        due("7 elements(0)", bits(0, 35), () -> house.elements(0));
        due("7 elements(1)", 1L << 35, () -> house.elements(1));
        due("7 elements(2)", INDEX, () -> house.elements(2));
        due("7 elements(-1)", INDEX, () -> house.elements(-1));
        due("7 elements(30)", INDEX, () -> house.elements(30));
    }

    private static void ways() {
        Sumsetry house = house(1, 12, bits(0, 1, 2), bits(0, 3, 6));
        due("8 ways(0, 0, 2)", 3, () -> house.ways(0, 0, 2));
        due("8 ways(0, 0, 1)", 2, () -> house.ways(0, 0, 1));
        due("8 ways(0, 0, 5)", 0, () -> house.ways(0, 0, 5));
        due("8 ways(0, 1, 8)", 1, () -> house.ways(0, 1, 8));
        due("8 no such set", INDEX, () -> house.ways(0, 2, 0));
        due("8 no such set ahead", INDEX, () -> house.ways(2, 0, 0));
        due("8 no such element", INDEX, () -> house.ways(0, 0, 12));
        due("8 element below 0", INDEX, () -> house.ways(0, 0, -1));
        Sumsetry all = house(6, 6, (1L << 36) - 1);
        due("8 of the whole group", 36, () -> all.ways(0, 0, 17));
    }

    private static void popular() {
        Sumsetry house = house(1, 12, bits(0, 1, 2), bits(0, 3, 6));
        due("9 popular(0, 0, 1)", bits(0, 1, 2, 3, 4), () -> house.popular(0, 0, 1));
        due("9 popular(0, 0, 2)", bits(1, 2, 3), () -> house.popular(0, 0, 2));
        due("9 popular(0, 0, 3)", bits(2), () -> house.popular(0, 0, 3));
        due("9 popular(0, 1, 1)", (1L << 9) - 1, () -> house.popular(0, 1, 1));
        due("9 popular(0, 1, 2)", 0L, () -> house.popular(0, 1, 2));
        due("9 popular(0, 0, 4)", 0L, () -> house.popular(0, 0, 4));
        due("9 popular(0, 0, 36)", 0L, () -> house.popular(0, 0, 36));
        due("9 popular(0, 0, 37)", ARGUMENT, () -> house.popular(0, 0, 37));
        due("9 popular(0, 0, 0)", ARGUMENT, () -> house.popular(0, 0, 0));
        due("9 popular(0, 2, 0)", INDEX, () -> house.popular(0, 2, 0));
        Sumsetry all = house(6, 6, (1L << 36) - 1);
        due("9 of the whole group", (1L << 36) - 1, () -> all.popular(0, 0, 36));
    }

    private static void energy() {
        Sumsetry house = house(1, 12, bits(0, 3, 6), bits(0, 1, 2));
        due("10 energy(1, 1)", 19, () -> house.energy(1, 1));
        due("10 energy(0, 1)", 9, () -> house.energy(0, 1));
        due("10 no such set", INDEX, () -> house.energy(0, 2));
        due("10 no such set ahead", INDEX, () -> house.energy(-1, 0));
        due("11 energyAnew(1, 1)", 19, () -> house.energyAnew(1, 1));
        due("11 energyAnew(0, 1)", 9, () -> house.energyAnew(0, 1));
        due("11 no such set", INDEX, () -> house.energyAnew(0, 2));
        due("11 no such set ahead", INDEX, () -> house.energyAnew(-1, 0));
        Sumsetry all = house(6, 6, (1L << 36) - 1, 1L);
        due("10 of the whole group", 36 * 36 * 36, () -> all.energy(0, 0));
        due("11 of the whole group", 36 * 36 * 36, () -> all.energyAnew(0, 0));
        due("10 of it and one", 36, () -> all.energy(0, 1));
        due("11 of it and one", 36, () -> all.energyAnew(0, 1));
    }

    private static void stabilizer() {
        Sumsetry house = house(2, 4, bits(0, 1, 4, 5), bits(1, 3), (1L << 8) - 1, bits(2));
        due("12 stabilizer(0)", bits(0, 4), () -> house.stabilizer(0));
        due("12 stabilizer(1)", bits(0, 2), () -> house.stabilizer(1));
        due("12 stabilizer(2)", (1L << 8) - 1, () -> house.stabilizer(2));
        due("12 stabilizer(3)", 1L, () -> house.stabilizer(3));
        due("12 stabilizer(4)", INDEX, () -> house.stabilizer(4));
    }

    private static void excess() {
        Sumsetry house = house(1, 12, bits(0, 3, 6), bits(0, 1, 2), bits(0, 6), bits(0, 1));
        due("13 excess(0, 1)", 4, () -> house.excess(0, 1));
        due("13 excess(1, 1)", 0, () -> house.excess(1, 1));
        // {0, 1, 6, 7} is moved by 6 onto itself: 4 - 2 - 4 + 2
        due("13 excess(2, 3)", 0, () -> house.excess(2, 3));
        due("13 no such set", INDEX, () -> house.excess(4, 0));
        due("13 no such set behind", INDEX, () -> house.excess(0, 4));
    }

    private static void slack() {
        Sumsetry house = house(1, 12, bits(0, 3, 6), bits(0, 1, 2), bits(5));
        due("14 slack(0, 1, 1)", 18, () -> house.slack(0, 1, 1));
        due("14 slack(2, 1, 2)", 6, () -> house.slack(2, 1, 2));
        // 9 times 3, less 3 times 3
        due("14 slack(0, 1, 2)", 18, () -> house.slack(0, 1, 2));
        due("14 slack(2, 2, 2)", 0, () -> house.slack(2, 2, 2));
        due("14 no such first", INDEX, () -> house.slack(3, 0, 0));
        due("14 no such second", INDEX, () -> house.slack(0, 3, 0));
        due("14 no such third", INDEX, () -> house.slack(0, 0, 3));
    }

    private static void cover() {
        Sumsetry house = house(1, 12, bits(0, 1, 2, 3, 4, 5, 6, 7, 8), bits(0, 3, 6), bits(0, 1), bits(1, 2, 4));
        due("15 cover(0, 1)", bits(0, 1, 2), () -> house.cover(0, 1));
        due("15 cover(0, 2)", bits(0, 2, 4, 6, 8), () -> house.cover(0, 2));
        due("15 cover(3, 2)", bits(1, 4), () -> house.cover(3, 2));
        due("15 cover(2, 0)", bits(0), () -> house.cover(2, 0));
        due("15 no such set", INDEX, () -> house.cover(4, 0));
        due("15 no such by", INDEX, () -> house.cover(0, 4));
    }

    private static void sums() {
        Sumsetry house = house(1, 12, bits(0, 1, 2), bits(3), bits(1, 7));
        due("16 sums(0, 1)", bits(0, 1, 2), () -> house.sums(0, 1));
        due("16 sums(0, 3)", bits(0, 1, 2, 3, 4, 5, 6), () -> house.sums(0, 3));
        due("16 sums(0, 100)", (1L << 12) - 1, () -> house.sums(0, 100));
        due("16 sums(1, 3)", bits(9), () -> house.sums(1, 3));
        due("16 sums(1, 99)", bits(9), () -> house.sums(1, 99));
        due("16 sums(1, 100)", bits(0), () -> house.sums(1, 100));
        due("16 sums(2, 100)", bits(4, 10), () -> house.sums(2, 100));
        due("16 sums(0, 0)", ARGUMENT, () -> house.sums(0, 0));
        due("16 sums(0, 101)", ARGUMENT, () -> house.sums(0, 101));
        due("16 sums(3, 0)", INDEX, () -> house.sums(3, 0));
    }

    private static void order() {
        Sumsetry house = house(1, 12, bits(0, 1, 2), bits(0, 3, 6), (1L << 12) - 1, bits(0, 1), bits(1, 3));
        due("17 order(0)", 6, () -> house.order(0));
        due("17 order(1)", -1, () -> house.order(1));
        due("17 order of all", 1, () -> house.order(2));
        due("17 order of {0, 1}", 11, () -> house.order(3));
        due("17 all sums even or all odd", -1, () -> house.order(4));
        due("17 no such set", INDEX, () -> house.order(5));
        Sumsetry wide = house(1, 36, bits(0, 1), bits(7));
        due("17 the greatest order", 35, () -> wide.order(0));
        due("17 of one element", -1, () -> wide.order(1));
    }

    private static void essential() {
        Sumsetry house = house(1, 12, bits(0, 1, 2), bits(0, 3, 6), bits(0, 1), bits(0, 3, 4), bits(0, 1, 2, 3));
        due("18 essential(0)", bits(1), () -> house.essential(0));
        due("18 no order", 0L, () -> house.essential(1));
        due("18 both of {0, 1}", bits(0, 1), () -> house.essential(2));
        due("18 {0, 3} and {0, 4} have none", bits(3, 4), () -> house.essential(3));
        due("18 none", 0L, () -> house.essential(4));
        due("18 no such set", INDEX, () -> house.essential(5));
        Sumsetry least = house(1, 1, 1L);
        due("18 without it there is nothing", 1L, () -> least.essential(0));
    }

    private static void image() {
        // sets 0 and 1 are steps by 1 and by 5 of 1 and 12
        Sumsetry house = house(1, 12, bits(0, 1, 2), bits(3, 8, 1), bits(0, 1, 3), bits(4), bits(9));
        due("19 the lowest goes to 1", 1, () -> house.image(0, 1, 2, 0));
        due("19 the middle to the middle", 8, () -> house.image(0, 1, 2, 1));
        due("19 the highest", 3, () -> house.image(0, 1, 2, 2));
        due("19 not of the set", -1, () -> house.image(0, 1, 2, 3));
        due("19 no map", -1, () -> house.image(0, 2, 2, 0));
        due("19 unlike sizes", -1, () -> house.image(0, 3, 2, 0));
        due("19 one to one", 9, () -> house.image(3, 4, 3, 4));
        due("19 no such set", INDEX, () -> house.image(5, 0, 2, 0));
        due("19 no such other", INDEX, () -> house.image(0, 5, 2, 0));
        due("19 no such element", INDEX, () -> house.image(0, 1, 4, 12));
        due("19 order 1", ARGUMENT, () -> house.image(0, 1, 1, 0));
        due("19 order 4", ARGUMENT, () -> house.image(0, 1, 4, 0));
    }

    private static void mapsRefused() {
        Sumsetry house = house(1, 12, bits(0, 1, 2, 3, 4, 5, 6), bits(0, 1, 2, 3, 4, 5), bits(3));
        due("19 seven elements", STATE, () -> house.image(0, 1, 2, 0));
        due("19 seven elements behind", STATE, () -> house.image(1, 0, 2, 0));
        due("19 seven elements, order 4", ARGUMENT, () -> house.image(0, 0, 4, 0));
        due("19 six elements", 0, () -> house.image(1, 1, 2, 0));
        due("20 seven elements", STATE, () -> house.maps(0, 2, 2));
        due("20 seven elements behind", STATE, () -> house.maps(2, 0, 2));
        due("20 seven elements, order 1", ARGUMENT, () -> house.maps(0, 0, 1));
        due("20 order 4", ARGUMENT, () -> house.maps(1, 1, 4));
        due("20 no such set", INDEX, () -> house.maps(3, 0, 1));
        due("20 no such other", INDEX, () -> house.maps(0, 3, 1));
        due("20 six elements", 2, () -> house.maps(1, 1, 2));
    }

    private static void maps() {
        Sumsetry house = house(1, 12, bits(0, 1, 2), bits(3, 8, 1), bits(0, 1, 3), bits(4), bits(9), bits(0, 6));
        due("20 steps onto steps", 2, () -> house.maps(0, 1, 2));
        due("20 no steps", 0, () -> house.maps(0, 2, 2));
        due("20 unlike sizes", 0, () -> house.maps(0, 3, 2));
        due("20 one to one", 1, () -> house.maps(3, 4, 3));
        due("20 all ways, no sums alike", 6, () -> house.maps(2, 2, 2));
        // 0 + 0 = 6 + 6 for these, so 0 + 0 + 6 = 6 + 6 + 6 too
        due("20 a coset", 2, () -> house.maps(5, 5, 2));
        due("20 a coset by three", 2, () -> house.maps(5, 5, 3));
        Sumsetry steps = house(1, 6, bits(0, 1), bits(0, 2));
        // 0 + 0 + 0 = 2 + 2 + 2, and 1 + 1 + 1 is 3: alike by two, not by three
        due("20 order 2", 2, () -> steps.maps(0, 1, 2));
        due("20 order 3", 0, () -> steps.maps(0, 1, 3));
        Sumsetry great = house(1, 31, bits(1, 5, 11, 24, 25, 27));
        due("20 six elements of unlike sums", 720, () -> great.maps(0, 0, 2));
        due("19 the first of them, its highest", 27, () -> great.image(0, 0, 2, 27));
    }

    private static void keepsFreeAndSidon() {
        Sumsetry house = house(1, 12, bits(1, 3, 5, 7, 9, 11), bits(1, 2), bits(0), bits(4, 8), bits(0, 1, 4, 6),
                bits(0, 1, 2), bits(0, 6), bits(0, 1, 3, 4));
        boolean[] free = {true, false, false, false, false, false, false, false};
        boolean[] sidon = {false, true, true, true, false, false, false, false};
        for (int set = 0; set < free.length; set++) {
            int asked = set;
            due("21 keeps(" + set + ", FREE)", free[set], () -> house.keeps(asked, Sumsetry.FREE));
            due("21 keeps(" + set + ", SIDON)", sidon[set], () -> house.keeps(asked, Sumsetry.SIDON));
        }
        due("21 no such set", INDEX, () -> house.keeps(8, Sumsetry.FREE));
        due("21 no such rule", INDEX, () -> house.keeps(0, 4));
        due("21 rule below 0", INDEX, () -> house.keeps(0, -1));
        Sumsetry great = house(1, 31, bits(1, 5, 11, 24, 25, 27));
        due("21 a great set of unlike sums", true, () -> great.keeps(0, Sumsetry.SIDON));
    }

    private static void keepsNoStepsAndApart() {
        Sumsetry house = house(1, 12, bits(0, 1, 2), bits(0, 6), bits(0, 1, 3, 4), bits(0, 3, 6), bits(0, 4, 8),
                bits(1, 2, 4), bits(0), bits(1, 2, 3), bits(6), bits(3, 9));
        boolean[] noSteps = {false, true, true, false, false, true, true, false, true, true};
        boolean[] apart = {false, false, false, false, false, true, false, false, true, false};
        for (int set = 0; set < noSteps.length; set++) {
            int asked = set;
            due("21 keeps(" + set + ", NO_STEPS)", noSteps[set], () -> house.keeps(asked, Sumsetry.NO_STEPS));
            due("21 keeps(" + set + ", APART)", apart[set], () -> house.keeps(asked, Sumsetry.APART));
        }
        Sumsetry four = house(1, 4, bits(0, 1, 3), bits(1, 3), bits(0, 1, 2));
        due("21 1 and 3 round 0", false, () -> four.keeps(0, Sumsetry.NO_STEPS));
        due("21 1 and 3 alone", true, () -> four.keeps(1, Sumsetry.NO_STEPS));
        due("21 0 and 2 round 1", false, () -> four.keeps(2, Sumsetry.NO_STEPS));
        Sumsetry twos = house(2, 2, bits(0, 1, 2, 3), bits(1, 2));
        due("21 all of 2 and 2", true, () -> twos.keeps(0, Sumsetry.NO_STEPS));
        due("21 1 and 2 of 2 and 2", true, () -> twos.keeps(1, Sumsetry.APART));
        due("21 1 and 2 of 2 and 2, each twice 0", false, () -> twos.keeps(1, Sumsetry.SIDON));
        Sumsetry great = house(1, 36, bits(1, 2, 4, 8, 16), (1L << 36) - 1);
        due("21 powers of two", true, () -> great.keeps(0, Sumsetry.APART));
        due("21 all of 36", false, () -> great.keeps(1, Sumsetry.APART));
    }

    private static void greatest() {
        Sumsetry house = house(1, 12, (1L << 9) - 1, (1L << 12) - 1, bits(0), bits(0, 4, 8), bits(5));
        long[][] want = {
            {bits(1, 3, 5, 7), bits(0, 1, 3), bits(0, 1, 3, 4), bits(1, 2, 4)},
            {bits(1, 3, 5, 7, 9, 11), bits(0, 1, 3), bits(0, 1, 3, 4), bits(1, 2, 4)},
            {0, bits(0), bits(0), 0},
            {bits(4), bits(0, 4), bits(0, 4), bits(4)},
            {bits(5), bits(5), bits(5), bits(5)}};
        for (int set = 0; set < want.length; set++) {
            for (int rule = Sumsetry.FREE; rule <= Sumsetry.APART; rule++) {
                int asked = set;
                int by = rule;
                due("22 greatest(" + set + ", " + rule + ")", want[set][rule], () -> house.greatest(asked, by));
                due("23 greatestAnew(" + set + ", " + rule + ")", want[set][rule],
                        () -> house.greatestAnew(asked, by));
            }
        }
        Sumsetry wide = house(1, 36, (1L << 13) - 1, ((1L << 12) - 1) << 24);
        due("22 thirteen elements", STATE, () -> wide.greatest(0, 0));
        due("23 thirteen elements", STATE, () -> wide.greatestAnew(0, 0));
        due("22 thirteen elements, no rule", INDEX, () -> wide.greatest(0, 4));
        due("23 thirteen elements, no rule", INDEX, () -> wide.greatestAnew(0, 4));
        due("22 rule below 0", INDEX, () -> wide.greatest(1, -1));
        due("23 rule below 0", INDEX, () -> wide.greatestAnew(1, -1));
        due("22 no such set", INDEX, () -> wide.greatest(2, 0));
        due("23 no such set", INDEX, () -> wide.greatestAnew(2, 0));
        due("22 high elements", bits(24, 25, 27, 31, 32, 34), () -> wide.greatest(1, Sumsetry.NO_STEPS));
        due("23 high elements", bits(24, 25, 27, 31, 32, 34), () -> wide.greatestAnew(1, Sumsetry.NO_STEPS));
        due("22 makes no set", 2, () -> wide.of(2));
    }

    private static void wins() {
        Sumsetry house = new Sumsetry();
        due("24 of the least group, not free", 0L, () -> house.wins(Sumsetry.FREE, 0));
        due("24 of the least group, one put wins", 1L, () -> house.wins(Sumsetry.SIDON, 0));
        due("24 all was put", 0L, () -> house.wins(Sumsetry.SIDON, 1));
        house.group(1, 2);
        due("24 of 1 and 2, only 1 is free", 2L, () -> house.wins(Sumsetry.FREE, 0));
        due("24 of 1 and 2, 0 and 1 twice are alike", 3L, () -> house.wins(Sumsetry.SIDON, 0));
        due("24 of 1 and 2, both go", 0L, () -> house.wins(Sumsetry.NO_STEPS, 0));
        due("24 of 1 and 2, the other one", 2L, () -> house.wins(Sumsetry.NO_STEPS, 1));
        due("24 of 1 and 2, 1 is apart", 2L, () -> house.wins(Sumsetry.APART, 0));
        house.group(2, 4);
        due("24 of 2 and 4", 248L, () -> house.wins(Sumsetry.FREE, 2));
        due("24 of 2 and 4, apart", 254L, () -> house.wins(Sumsetry.APART, 0));
        due("24 of 2 and 4, apart behind 1", 0L, () -> house.wins(Sumsetry.APART, 2));
        house.group(1, 10);
        due("24 of ten, none stops all", 0L, () -> house.wins(Sumsetry.APART, bits(1, 2, 5)));
        due("24 nothing changes", 0, () -> house.of(2));
    }

    private static void winsRefused() {
        Sumsetry house = new Sumsetry();
        due("24 no such rule", INDEX, () -> house.wins(4, 0));
        due("24 rule below 0, no element", INDEX, () -> house.wins(-1, 8));
        due("24 no element", ARGUMENT, () -> house.wins(1, 2));
        due("24 no element, bits above", ARGUMENT, () -> house.wins(1, 1L << 40));
        due("24 no element, the highest bit", ARGUMENT, () -> house.wins(1, Long.MIN_VALUE));
        due("24 the rule is not kept", ARGUMENT, () -> house.wins(0, 1));
        house.group(1, 11);
        due("24 eleven elements", STATE, () -> house.wins(1, 0));
        due("24 eleven elements, no rule", INDEX, () -> house.wins(5, 0));
        due("24 eleven elements, no element", ARGUMENT, () -> house.wins(1, 1L << 11));
        due("24 eleven elements, not kept", ARGUMENT, () -> house.wins(1, bits(0, 1, 2)));
        house.group(6, 6);
        due("24 of 6 and 6, not kept", ARGUMENT, () -> house.wins(3, (1L << 36) - 1));
        due("24 of 6 and 6, kept", STATE, () -> house.wins(3, 1L << 35));
    }

    private static void put() {
        Sumsetry house = house(1, 5);
        due("25 element 5", INDEX, () -> house.put(5));
        due("25 element -1", INDEX, () -> house.put(-1));
        for (int count = 1; count <= 12; count++) {
            int want = count;
            due("25 put, the number " + count, want, () -> house.put(want % 5));
        }
        due("25 with 12", STATE, () -> house.put(0));
        due("25 with 12, no element", INDEX, () -> house.put(5));
        due("25 still 12", 12, () -> house.of(3));
    }

    private static void wipe() {
        Sumsetry house = house(1, 5, 3L);
        due("26 wipe of nothing", 0, () -> house.wipe());
        house.put(0);
        house.put(0);
        due("26 wipe of two", 2, () -> house.wipe());
        due("26 wiped", 0, () -> house.of(3));
        due("26 no part", 0, () -> house.zero());
        due("26 sets stay", 1, () -> house.of(2));
        due("26 put again", 1, () -> house.put(1));
        due("26 what was there is gone", 0, () -> house.zero());
    }

    private static void zero() {
        Sumsetry house = house(2, 4);
        due("27 of nothing", 0, () -> house.zero());
        house.put(1);
        due("27 of one", 0, () -> house.zero());
        house.put(2);
        house.put(1);
        due("27 all three", 7, () -> house.zero());
        house.put(3);
        due("27 of several the lowest", 9, () -> house.zero());
        house.put(7);
        house.put(0);
        due("27 one place", 32, () -> house.zero());
        due("27 asked again", 32, () -> house.zero());
        Sumsetry ones = house(1, 12);
        for (int put = 0; put < 12; put++) {
            due("27 of " + put + " ones", 0, () -> ones.zero());
            ones.put(1);
        }
        due("27 of twelve ones", 4095, () -> ones.zero());
        Sumsetry fives = house(1, 36);
        for (int put = 0; put < 12; put++) {
            fives.put(put < 9 ? 1 : 18);
        }
        due("27 two of the last", 1 << 9 | 1 << 10, () -> fives.zero());
    }

    private static void constant() {
        int[][] want = {{1, 1, 1}, {1, 2, 2}, {2, 1, 2}, {2, 2, 3}, {1, 4, 4}, {3, 2, 6}, {2, 4, 5}, {4, 2, 5},
            {3, 3, 5}, {1, 9, 9}, {9, 1, 9}, {2, 5, 10}, {1, 10, 10}, {5, 2, 10}};
        Sumsetry house = new Sumsetry();
        for (int[] one : want) {
            house.group(one[0], one[1]);
            due("28 of " + one[0] + " and " + one[1], one[2], () -> house.constant());
        }
        house.group(1, 11);
        due("28 eleven elements", STATE, () -> house.constant());
        house.group(6, 6);
        due("28 thirty-six elements", STATE, () -> house.constant());
    }

    private static void root() {
        Sumsetry house = house(1, 6, 1L);
        int[][] wrong = {{1, 1}, {0, 0}, {-7, 3}, {9, 2}, {10000, 3}, {10009, 1}, {7, 0}, {7, 7}, {7, -4}, {7, 2},
            {7, 6}, {7, 1}, {7, 10}, {13, 2}, {LOWEST, 1}, {HIGHEST, 2}, {HIGHEST, HIGHEST}, {9797, 1}};
        for (int[] one : wrong) {
            rootDue("29 root(" + one[0] + ", " + one[1] + ")", ARGUMENT, house, one[0], one[1]);
            due("29 none was told", 0, () -> house.of(4));
        }
        rootDue("29 root(7, 3)", "nothing", house, 7, 3);
        due("29 the prime", 7, () -> house.of(4));
        rootDue("29 root(7, 2)", ARGUMENT, house, 7, 2);
        due("29 the prime stays", 7, () -> house.of(4));
        rootDue("29 root(13, 4)", "nothing", house, 13, 4);
        due("29 another prime", 13, () -> house.of(4));
        due("29 sets stay", 1, () -> house.of(2));
        Sumsetry least = new Sumsetry();
        rootDue("29 root(2, 1) of 1 and 1", "nothing", least, 2, 1);
        rootDue("29 root(2, 2) of 1 and 1", ARGUMENT, least, 2, 2);
        rootDue("29 root(7, 8) of 1 and 1", ARGUMENT, least, 7, 8);
        rootDue("29 root(7, 7) of 1 and 1", ARGUMENT, least, 7, 7);
        rootDue("29 root(7, 0) of 1 and 1", ARGUMENT, least, 7, 0);
        rootDue("29 root(9973, 1) of 1 and 1", "nothing", least, 9973, 1);
        rootDue("29 root(9999, 1) of 1 and 1", ARGUMENT, least, 9999, 1);
        due("29 the highest prime", 9973, () -> least.of(4));
        Sumsetry pair = house(2, 4);
        rootDue("29 of 2 and 4", STATE, pair, 5, 2);
        rootDue("29 of 2 and 4, no prime", ARGUMENT, pair, 4, 1);
        rootDue("29 of 2 and 4, no root", ARGUMENT, pair, 5, 4);
        due("29 none told of 2 and 4", 0, () -> pair.of(4));
        rootDue("29 of 4 and 1", STATE, house(4, 1), 5, 1);
    }

    private static void transform() {
        Sumsetry house = house(1, 12, bits(0, 1, 2), bits(11));
        due("30 no root", STATE, () -> house.transform(0, 0));
        due("30 no root, k out of range", ARGUMENT, () -> house.transform(0, 12));
        house.root(13, 2);
        due("30 transform(0, 0)", 3, () -> house.transform(0, 0));
        due("30 transform(0, 1)", 7, () -> house.transform(0, 1));
        due("30 transform(0, 6)", 1, () -> house.transform(0, 6));
        due("30 transform(1, 11)", 2, () -> house.transform(1, 11));
        due("30 k below 0", ARGUMENT, () -> house.transform(0, -1));
        due("30 k of n", ARGUMENT, () -> house.transform(0, 12));
        due("30 no such set", INDEX, () -> house.transform(2, -1));
        house.root(13, 6);
        due("30 by another root", 4, () -> house.transform(0, 1));
        Sumsetry pair = house(2, 4, 1L);
        due("30 of 2 and 4", STATE, () -> pair.transform(0, 3));
        due("30 of 2 and 4, k out of range", ARGUMENT, () -> pair.transform(0, 4));
    }

    private static void waysAnew() {
        Sumsetry house = house(1, 12, bits(0, 1, 2), bits(0, 3, 6));
        due("31 no root", STATE, () -> house.waysAnew(0, 0, 2));
        due("31 no root, no element", INDEX, () -> house.waysAnew(0, 0, 12));
        house.root(13, 2);
        due("31 waysAnew(0, 0, 2)", 3, () -> house.waysAnew(0, 0, 2));
        due("31 waysAnew(0, 0, 5)", 0, () -> house.waysAnew(0, 0, 5));
        due("31 waysAnew(0, 1, 8)", 1, () -> house.waysAnew(0, 1, 8));
        due("31 no such set", INDEX, () -> house.waysAnew(2, 0, 0));
        due("31 no such other", INDEX, () -> house.waysAnew(0, 2, 0));
        due("31 element below 0", INDEX, () -> house.waysAnew(0, 0, -1));
        Sumsetry all = house(1, 36, (1L << 36) - 1);
        all.root(37, 2);
        due("31 of the whole group", 36, () -> all.waysAnew(0, 0, 35));
        Sumsetry high = house(1, 3, 7L, 3L);
        high.root(9973, rootOfThree(9973));
        due("31 by a high prime", 2, () -> high.waysAnew(0, 1, 1));
    }

    private static int rootOfThree(int p) {
        for (int w = 2; w < p; w++) {
            if ((long) w * w % p * w % p == 1) {
                return w;
            }
        }
        return 0;
    }

    private static void of() {
        Sumsetry house = house(1, 3, 1L, 2L);
        house.put(2);
        house.root(7, 2);
        stateDue("32", house, 1, 3, 2, 1, 7);
        due("32 of(5)", ARGUMENT, () -> house.of(5));
        due("32 of(-1)", ARGUMENT, () -> house.of(-1));
        due("32 of the lowest", ARGUMENT, () -> house.of(LOWEST));
        stateDue("32 of 5 and 7", house(5, 7), 5, 7, 0, 0, 0);
    }

    /** With 30 sets and 12 in the row, what is refused changes nothing. */
    private static void fullHouse() {
        Sumsetry house = house(1, 4);
        house.root(5, 2);
        while (house.of(2) < 30) {
            house.set(house.of(2) % 15 + 1);
        }
        while (house.of(3) < 12) {
            house.put(1);
        }
        due("full: set", STATE, () -> house.set(1));
        due("full: combine", STATE, () -> house.combine(0, 0, 0));
        due("full: move", STATE, () -> house.move(0, 1, 0));
        due("full: put", STATE, () -> house.put(0));
        rootDue("full: root", ARGUMENT, house, 5, 4);
        due("full: group", ARGUMENT, () -> house.group(0, 0));
        stateDue("full", house, 1, 4, 30, 12, 5);
        for (int set = 0; set < 30; set++) {
            int asked = set;
            due("full: elements(" + set + ")", (long) (set % 15 + 1), () -> house.elements(asked));
        }
        due("full: zero", 15, () -> house.zero());
        due("full: transform", 3, () -> house.transform(2, 1));
    }

    /** Numbers that are out of range by far. */
    private static void wrongSetsAndElements() {
        Sumsetry house = house(1, 5, 3L);
        for (int wrong : new int[] {LOWEST, -1, 1, 30, 31, 64, HIGHEST}) {
            due("far: elements", INDEX, () -> house.elements(wrong));
            due("far: combine", INDEX, () -> house.combine(0, wrong, 0));
            due("far: move", INDEX, () -> house.move(wrong, 1, 0));
            due("far: ways", INDEX, () -> house.ways(wrong, 0, 0));
            due("far: popular", INDEX, () -> house.popular(wrong, 0, 0));
            due("far: stabilizer", INDEX, () -> house.stabilizer(wrong));
            due("far: sums", INDEX, () -> house.sums(wrong, 1));
            due("far: order", INDEX, () -> house.order(wrong));
            due("far: essential", INDEX, () -> house.essential(wrong));
            due("far: keeps", INDEX, () -> house.keeps(wrong, 0));
            due("far: transform", INDEX, () -> house.transform(wrong, 0));
        }
        for (int wrong : new int[] {LOWEST, -1, 5, 36, 64, HIGHEST}) {
            due("far: add", INDEX, () -> house.add(wrong, 0, true));
            due("far: put", INDEX, () -> house.put(wrong));
            due("far: times", ARGUMENT, () -> house.move(0, wrong < 0 ? LOWEST : HIGHEST, 0));
            due("far: ways element", INDEX, () -> house.ways(0, 0, wrong));
            due("far: image element", INDEX, () -> house.image(0, 0, 2, wrong));
            due("far: waysAnew element", INDEX, () -> house.waysAnew(0, 0, wrong));
            due("far: rule", INDEX, () -> house.keeps(0, wrong));
            due("far: wins rule", INDEX, () -> house.wins(wrong, 0));
        }
        stateDue("far", house, 1, 5, 1, 0, 0);
    }
}
