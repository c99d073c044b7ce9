/** Sentences of part 4 and of promises 22 to 24. */
final class WalkSentences {
    private static final int[] SEEDS = {0, 1, 2, 3, -1, -2, 77, 65535, 65536, -65536, 123456789, -98765, 1103515245, -12345,
        Integer.MAX_VALUE, Integer.MIN_VALUE, Integer.MIN_VALUE + 1, 0x7fff0000, 0x80000001};

    // in a ring 12 of these 25 people are in a row in three ways; the tree that begins with 1, 4, 2, 7 has no seam
    private static final int[] PEOPLE = {5, 1, 4, 2, 7, 3, 3};

    private final Sentences s;

    WalkSentences(Sentences s) {
        this.s = s;
    }

    void test() {
        numbersDrawn();
        borderTaken();
        treeOfLikeNumbers();
        seamsThatFit();
        noSeam();
        seamDrawn();
        namesOfParts();
        unlawfulStays();
        nothingToCross();
        whatIsSeen();
        step();
        walk();
        seen();
    }

    /** A line without people, the last place in district 1: each border is a seam. */
    private static DistrictCutter line(int places) {
        DistrictCutter x = Lands.line(new int[places]);
        x.put(places - 1, 1);
        return x;
    }

    /** In a line of n places a step draws for the crossing, for n - 1 borders, and for the seam. */
    private void seamIs(int places, int seed, int seam) {
        DistrictCutter x = line(places);
        s.due(places + " places: step(" + seed + ")", x.step(seed), seam == places - 2 ? 0 : 1);
        for (int p = 0; p < places; p++) {
            s.due(places + " places, step(" + seed + "): at(" + p + ")", x.at(p), p <= seam ? 0 : 1);
        }
    }

    private void numbersDrawn() {
        s.ofTerms("NUMBERS DRAWN: a seed (an int, as 32 bits); each time it becomes itself times 1103515245 and 12345, as 32 bits, "
            + "and the number drawn is its upper 16 bits, from 0 on.");
        int[] fromOne = {16838, 38526, 10113, 50283, 63819, 38395};
        int[] fromMinusOne = {48697, 4409, 9862, 59486, 8713, 60994};
        for (int i = 0; i < fromOne.length; i++) {
            s.due("number drawn from 1", Draws.nth(1, i + 1), fromOne[i]);
            s.due("number drawn from -1", Draws.nth(-1, i + 1), fromMinusOne[i]);
        }
        // 63819 is above half of what 16 bits hold: with a bit less, or below 0, the rest by 3 would be another one
        seamIs(4, 1, 63819 % 3);
        seamIs(4, -1, 8713 % 3);
        for (int places = 2; places <= 30; places++) {
            for (int seed : SEEDS) {
                seamIs(places, seed, Draws.nth(seed, places + 1) % (places - 1));
            }
        }
    }

    /** Four districts of two places in a line, whose borders were made from the far end on. */
    private void borderTaken() {
        s.ofTerms("A STEP from a LAWFUL PARTING: of the BORDERS between two districts, as they are numbered, the one is taken whose "
            + "place in that row is a number drawn, the rest of it by how many there are;");
        for (int seed : SEEDS) {
            DistrictCutter x = new DistrictCutter();
            x.law(4, 0);
            for (int p = 0; p < 8; p++) {
                x.place(0, 0, 0, 1, 0);
                x.put(p, p / 2);
            }
            for (int p = 6; p >= 0; p--) {
                x.border(p, p + 1, 1);
            }
            int lesser = 2 - Draws.nth(seed, 1) % 3;
            int lastOfLesser = 2 * lesser + 2 - Draws.nth(seed, 5) % 3;
            s.due("step(" + seed + ")", x.step(seed), lastOfLesser == 2 * lesser + 1 ? 0 : 1);
            for (int p = 0; p < 8; p++) {
                boolean melted = p / 2 == lesser || p / 2 == lesser + 1;
                int due = !melted ? p / 2 : p <= lastOfLesser ? lesser : lesser + 1;
                s.due("step(" + seed + "): at(" + p + ")", x.at(p), due);
            }
        }
    }

    private void ringsAgree(String what, Ring ring, int seed, int steps) {
        DistrictCutter x = ring.land();
        for (int i = 0; i < steps; i++) {
            int next = seed + i * 7919;
            ring.seed(next);
            s.due(what + ", step(" + next + ")", x.step(next), ring.step() ? 1 : 0);
            s.ats(x, ring.part);
        }
    }

    private void treeOfLikeNumbers() {
        s.ofTerms("its two districts are MELTED: of the BORDERS within these, rising, each draws a number; they are taken in order "
            + "of these (of like ones the lesser BORDER first), each that does not close a ring is in the TREE.");
        for (int places = 3; places <= 30; places += 9) {
            ringsAgree("ring of " + places, new Ring(1000, false, new int[places]), 5 * places, 10);
        }
        int found = 0;
        for (int seed = 0; seed < 2000000 && found < 6; seed++) {
            if (hasLikeGreatest(seed)) {
                found++;
                ringsAgree("like numbers", new Ring(1000, false, 0, 0, 0), seed, 1);
            }
        }
        s.due("seeds with like numbers", found, 6);
    }

    /** Whether of the three numbers of a ring of three the two greatest are alike. */
    private static boolean hasLikeGreatest(int start) {
        int seed = start * 1103515245 + 12345;
        int[] numbers = new int[3];
        for (int i = 0; i < 3; i++) {
            seed = seed * 1103515245 + 12345;
            numbers[i] = seed >>> 16;
        }
        java.util.Arrays.sort(numbers);
        return numbers[1] == numbers[2];
    }

    private void seamsThatFit() {
        s.ofTerms("SEAMS of the TREE: its BORDERS, rising, without which the SIZES of both parts FIT.");
        for (int seed : SEEDS) {
            // 8 | 12 of 20 is just 200 parts of a thousand off
            String making = "place(8, 0, 0, 1, 0); place(2, 0, 0, 1, 0); place(10, 0, 0, 1, 0); border(0, 1, 1); border(1, 2, 1);";
            int moved = Draws.nth(seed, 4) % 2 == 0 ? 1 : 0;
            s.run(Script.made(making + "law(2, 200); put(2, 1)"), "step(" + seed + ") = " + moved + "; at(1) = " + moved);
            s.run(Script.made(making + "law(2, 199); put(2, 1)"), "step(" + seed + ") = 0; at(1) = 0");
            bothPartsFit(seed);
        }
    }

    /** Of 30 people 8 to 12 fit: 8 and 9 of the 22 that melt would, but not what is left. */
    private void bothPartsFit(int seed) {
        DistrictCutter x = Lands.line(new int[] {8, 1, 1, 2, 10, 8});
        x.law(3, 200);
        Lands.puts(x, 0, 0, 0, 0, 1, 2);
        boolean taken = Draws.nth(seed, 1) % 2 == 0;
        boolean moves = taken && Draws.nth(seed, 6) % 2 == 0;
        s.due("step(" + seed + ")", x.step(seed), moves ? 1 : 0);
        s.ats(x, 0, 0, 0, moves ? 1 : 0, 1, 2);
    }

    private void noSeam() {
        s.ofTerms("If there are none, all stays.");
        int stayed = 0;
        for (int seed = 0; seed < 40; seed++) {
            // only {0} and {1, 2, 3} fit: where place 0 is no end of the tree there is no seam
            Ring ring = new Ring(0, false, 3, 1, 1, 1);
            ringsAgree("ring of 3, 1, 1, 1", ring, seed, 1);
            stayed += ring.withoutSeam;
            s.due("named anew if there is a seam", ring.part[0], ring.withoutSeam);
        }
        s.holds("with and without seams: " + stayed + " of 40", stayed > 5 && stayed < 35);
        // the same in the greatest land: only the last place and all others fit
        int[] people = new int[30];
        java.util.Arrays.fill(people, 1);
        people[29] = 29;
        Ring greatest = new Ring(0, false, people).splitAt(29);
        ringsAgree("ring of 30", greatest, 1, 12);
        s.holds("most have no seam: " + greatest.withoutSeam, greatest.withoutSeam > 6);
    }

    /** A walk tells whether a step without seams draws a number more: all behind it would be other ones. */
    private void seamDrawn() {
        s.ofTerms("Else one more number is drawn: the TREE is parted at the SEAM at that place, the rest of it by how many there are:");
        int told = 0;
        for (int seed : SEEDS) {
            Ring ring = new Ring(40, false, PEOPLE).splitAt(4);
            DistrictCutter x = ring.land();
            int[] due = sights(ring, seed, 200);
            s.due("walk(200, " + seed + ", 0)", x.walk(200, seed, 0), due[0]);
            for (int how = 0; how < 6; how++) {
                s.due("walk(200, " + seed + ", 0): seen(" + how + ")", x.seen(how), due[how]);
            }
            s.holds("some steps had no seam", ring.withoutSeam > 10 && ring.withoutSeam < 190);
            int[] other = sights(new Ring(40, true, PEOPLE).splitAt(4), seed, 200);
            told += java.util.Arrays.equals(due, other) ? 0 : 1;
        }
        s.holds("a number more would be seen", told > SEEDS.length / 2);
    }

    private static int[] sights(Ring ring, int seed, int steps) {
        int[] sights = {0, 0, 0, Integer.MAX_VALUE, 0, 0};
        int mark = ring.edge();
        ring.seed(seed);
        for (int i = 0; i < steps; i++) {
            sights[5] += ring.step() ? 1 : 0;
            int edge = ring.edge();
            sights[edge < mark ? 0 : edge == mark ? 1 : 2]++;
            sights[3] = Math.min(sights[3], edge);
            sights[4] = Math.max(sights[4], edge);
        }
        return sights;
    }

    private void namesOfParts() {
        s.ofTerms("the part with the least place of both districts gets the lesser one's number, the other part the other's.");
        DistrictCutter x = Lands.line(new int[] {1, 1});
        s.run(x, "put(0, 1); step(5) = 1; at(0) = 0; at(1) = 1; step(5) = 0");
        // the numbers are those of the two districts, not 0 and 1
        DistrictCutter y = new DistrictCutter();
        y.law(6, 0);
        for (int p = 0; p < 6; p++) {
            y.place(1, 0, 0, 1, 0);
            y.put(p, p);
        }
        s.run(y, "put(1, 5); put(5, 1); border(5, 1, 1); step(-9) = 1; at(1) = 1; at(5) = 5; at(0) = 0; at(2) = 2; at(3) = 3;"
            + "at(4) = 4; step(-9) = 0");
    }

    private void unlawfulStays() {
        s.ofTerms("If what comes is not LAWFUL, all stays.");
        String[] laws = {"fix(1, 0)", "keep(0, 1)", "cuts(0)"};
        int moved = 0;
        for (int seed : SEEDS) {
            // places 0 and 1 are one town: the seam between them cuts it
            String making = "place(0, 0, 0, 1, 0); place(0, 0, 0, 1, 0); place(0, 0, 0, 1, 1); border(0, 1, 1); border(1, 2, 1);"
                + "put(2, 1);";
            for (String law : laws) {
                s.run(Script.made(making + law), "lawful() = 0; step(" + seed + ") = 0; at(0) = 0; at(1) = 0; at(2) = 1;"
                    + "lawful() = 0; walk(3, " + seed + ", 0) = 0; seen(5) = 0; seen(1) = 3");
            }
            moved += Script.ask(Script.made(making), "step(" + seed + ")");
        }
        s.holds("without these laws some would move: " + moved, moved > 3);
    }

    private void nothingToCross() {
        s.ofTerms("(If there are no BORDERS between districts, all stays, and nothing is drawn.)");
        for (int seed : SEEDS) {
            s.run(Script.made("place(0, 0, 0, 1, 0); law(1, 0)"), "step(" + seed + ") = 0; at(0) = 0; walk(2, " + seed
                + ", 0) = 0; seen(1) = 2; seen(5) = 0");
            s.run(Script.made("place(0, 0, 0, 1, 0); place(0, 0, 0, 1, 0); border(0, 1, 1); law(1, 0)"), "step(" + seed + ") = 0");
            s.run(Script.made("place(0, 0, 0, 1, 0); place(0, 0, 0, 1, 0); put(0, 1)"), "step(" + seed + ") = 0; at(0) = 1;"
                + "at(1) = 0");
        }
    }

    private void whatIsSeen() {
        s.ofTerms("A WALK of n STEPS: SEEN are the PARTINGS behind each STEP, also those that stayed.");
        // two places named the other way round: the first step names them anew, all others stay
        s.run(Lands.line(new int[] {1, 1}, 7), "put(0, 1); walk(200, 3, 0) = 0; seen(0) = 0; seen(1) = 200; seen(2) = 0;"
            + "seen(3) = 7; seen(4) = 7; seen(5) = 1; walk(1, 3, 0) = 0; seen(1) = 1; seen(5) = 1");
        // where THE PARTING was is not seen unless a step stays there or comes back
        for (int seed : SEEDS) {
            DistrictCutter x = Lands.line(new int[] {0, 0, 0}, 4, 9);
            x.put(2, 1);
            int less = Draws.nth(seed, 4) % 2 == 0 ? 1 : 0;
            s.run(x, "walk(1, " + seed + ", 0) = " + less + "; seen(0) = " + less + "; seen(1) = " + (1 - less) + "; seen(2) = 0;"
                + "seen(3) = " + (less == 1 ? 4 : 9) + "; seen(4) = " + (less == 1 ? 4 : 9) + "; seen(5) = " + less);
        }
    }

    private void step() {
        String section = "Promise 22: step";
        s.of(section, "A STEP with a seed: 1 if THE PARTING is another one then, else 0.");
        s.run(Lands.line(new int[] {1, 1}), "put(0, 1); step(MIN) = 1; step(MIN) = 0; at(0) = 0; put(0, 1); put(1, 0); step(MAX) = 1;"
            + "step(MAX) = 0; lawful() = 0");
        s.of(section, "EMPTY, KIND.");
        s.run("step(0) = EMPTY; step(MIN) = EMPTY; law(1, 0); step(1) = EMPTY; place(0, 0, 0, 1, 0); step(1) = 0");
        s.run(Lands.line(new int[] {1, 1}), "step(1) = KIND; put(1, 1); step(1) = 0; fix(0, 1); step(1) = KIND; at(0) = 0");
        s.ofTerms("KIND (-3): THE PARTING is not LAWFUL;");
        s.due("KIND", DistrictCutter.KIND, -3);
        everyLawBroken("step(1) = -3; walk(1, 1, 0) = -3; better() = -3;");
    }

    /** Two places, broken by each law in turn: in the end all is lawful. */
    private void everyLawBroken(String refused) {
        DistrictCutter x = Script.made("place(5, 0, 0, 1, 0); place(6, 0, 0, 1, 0)");
        String[] breaking = {"lawful() = 1", "law(1, 0); lawful() = 2", "law(2, 0); put(1, 1); lawful() = 3",
            "people(0, 6); keep(0, 1); lawful() = 4", "keep(0, 0); fix(1, 0); lawful() = 5", "fix(1, -1); cuts(0); lawful() = 6"};
        for (String broken : breaking) {
            s.run(x, broken + ";" + refused);
        }
        s.run(x, "cuts(1); step(1) = 0; walk(1, 1, 0) = 0; better() = 0");
    }

    private void walk() {
        String section = "Promise 23: walk";
        s.of(section, "A WALK of n (1 .. 200) STEPS from THE PARTING,");
        String making = "place(0, 3, 4, 1, 0); place(0, 1, 0, 1, 0); place(0, 2, 2, 1, 1); border(0, 1, 5); border(1, 2, 9); put(2, 1);";
        s.within(making, "walk(?, 1, 0)", 1, 200);
        for (int n : new int[] {1, 2, 199, 200}) {
            DistrictCutter x = Script.made(making + "walk(" + n + ", 8, 0)");
            s.due("all that walk(" + n + ", ..) has seen", x.seen(0) + x.seen(1) + x.seen(2), n);
        }
        s.of(section, "which stays as it is,");
        s.run(Script.made(making), "walk(200, 8, 0); at(0) = 0; at(1) = 0; at(2) = 1; district(0, 0) = 2; lawful() = 0");
        s.of(section, "all with the numbers drawn one behind the other from one seed:");
        for (int seed : SEEDS) {
            Draws draws = new Draws(seed);
            int less = 0;
            for (int i = 0; i < 25; i++) {
                draws.skip(3);
                less += draws.draw() % 2 == 0 ? 1 : 0;
            }
            s.run(Script.made(making), "walk(25, " + seed + ", 0) = " + less + "; walk(25, " + seed + ", 0) = " + less);
        }
        s.of(section, "how many of the SEEN have less of a MEASURE than THE PARTING; those with as much, and with more, are told by "
            + "seen().");
        lessAsMuchMore(making);
        s.of(section, "NONE, EMPTY, KIND.");
        s.within(making, "walk(3, 1, ?)", 0, 6);
        s.run("walk(0, 1, 0) = NONE; walk(201, 1, 0) = NONE; walk(1, 1, 7) = NONE; walk(1, 1, -1) = NONE; walk(1, 1, 0) = EMPTY;"
            + "walk(200, MIN, 6) = EMPTY");
        s.run(Lands.line(new int[] {1, 1}), "walk(0, 1, 0) = NONE; walk(201, 1, 0) = NONE; walk(1, 1, 7) = NONE;"
            + "walk(1, 1, -1) = NONE; walk(1, 1, 0) = KIND; walk(200, 1, 6) = KIND");
    }

    /** Two partings come by: {0, 1} | {2} of edge 9 and {0} | {1, 2} of edge 5. */
    private void lessAsMuchMore(String making) {
        DistrictCutter high = Script.made(making);
        DistrictCutter low = Script.made(making + "put(1, 1)");
        int less = high.walk(40, 8, 0);
        s.holds("some have less: " + less, less > 0 && less < 40);
        s.run(high, "seen(0) = " + less + "; seen(1) = " + (40 - less) + "; seen(2) = 0");
        s.run(low, "walk(40, 8, 0) = 0; seen(0) = 0; seen(1) = " + less + "; seen(2) = " + (40 - less));
    }

    private void seen() {
        String section = "Promise 24: seen";
        String making = "place(0, 3, 4, 1, 0); place(0, 1, 0, 1, 0); border(0, 1, 5); put(0, 1);";
        s.of(section, "Of the latest walk() that was not refused:");
        s.run(Script.made(making), "walk(3, 1, 0) = 0; seen(1) = 3; seen(3) = 5; walk(4, 1, 1) = 0; seen(1) = 4; seen(3) = 1;"
            + "walk(0, 1, 0) = NONE; walk(9, 1, 7) = NONE; seen(1) = 4; seen(3) = 1; put(0, 0); walk(9, 1, 0) = KIND; seen(1) = 4;"
            + "seen(3) = 1; seen(5) = 1; law(1, 0); seen(1) = 4; border(0, 1, 1); place(0, 0, 0, 1, 0); seen(4) = 1");
        s.of(section, "how many of the SEEN had less (0), as much (1), more (2), 3 the least, 4 the greatest value, 5 how many STEPS "
            + "led to another PARTING.");
        Ring ring = new Ring(1000, false, 0, 0, 0, 0, 0);
        DistrictCutter x = ring.land();
        int[] due = sights(ring, 4711, 60);
        s.due("walk(60, 4711, 0)", x.walk(60, 4711, 0), due[0]);
        for (int how = 0; how < 6; how++) {
            s.due("seen(" + how + ")", x.seen(how), due[how]);
            s.holds("something for how " + how, due[how] > 0);
        }
        shortWalks();
        s.of(section, "NONE: no such how, or before any");
        s.within(making + "walk(2, 1, 0)", "seen(?)", 0, 5);
        s.run("seen(0) = NONE; seen(1) = NONE; seen(2) = NONE; seen(3) = NONE; seen(4) = NONE; seen(5) = NONE; seen(6) = NONE;"
            + "seen(-1) = NONE; walk(1, 1, 0) = EMPTY; seen(1) = NONE");
        s.run(Script.made(making), "step(1) = 1; put(0, 1); walk(3, 1, 0) = KIND; seen(1) = NONE; seen(5) = NONE; put(1, 0);"
            + "walk(201, 1, 0) = NONE; seen(1) = NONE; walk(1, 1, 0) = 0; seen(1) = 1");
        s.of(section, "(3, 4 may be -1 never).");
        for (int m = 0; m < 7; m++) {
            DistrictCutter y = Script.made("place(0, 0, 0, 1, 0); place(0, 0, 0, 1, 1); put(1, 1); walk(2, 1, " + m + ")");
            s.run(y, "seen(3) = 0; seen(4) = 0");
        }
    }

    /** Of one, two and three steps: each of them may have the least and the greatest value. */
    private void shortWalks() {
        for (int steps = 1; steps <= 3; steps++) {
            for (int seed : SEEDS) {
                Ring ring = new Ring(1000, false, 0, 0, 0, 0, 0, 0);
                DistrictCutter x = ring.land();
                int[] due = sights(ring, seed, steps);
                x.walk(steps, seed, 0);
                for (int how = 0; how < 6; how++) {
                    s.due("walk(" + steps + ", " + seed + ", 0): seen(" + how + ")", x.seen(how), due[how]);
                }
            }
        }
    }
}
