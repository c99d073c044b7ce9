/** Sentences of promises 25 and 26. */
final class ChangeSentences {
    private final Sentences s;

    ChangeSentences(Sentences s) {
        this.s = s;
    }

    void test() {
        better();
        betterRefused();
        mendNumbers();
        mendChoice();
        mendRefused();
    }

    private static DistrictCutter line(int tolerance, int[] people, int... lengths) {
        DistrictCutter x = Lands.line(people, lengths);
        x.law(2, tolerance);
        return x;
    }

    private void better() {
        String section = "Promise 25: better";
        s.of(section, "As long as some place can be moved to another district so that all is LAWFUL and the EDGE is less than before:");
        s.run(line(1000, new int[6], 1, 2, 3, 4, 5), "put(5, 1); better() = 4; at(0) = 0; at(1) = 1; measure(0) = 1; better() = 0");
        // as much is not less; one less is
        s.run(line(1000, new int[3], 4, 4), "put(2, 1); better() = 0; at(1) = 0");
        s.run(line(1000, new int[3], 3, 4), "put(2, 1); better() = 1; at(1) = 1; measure(0) = 3");
        s.run(line(1000, new int[3], 5, 4), "put(2, 1); better() = 0; at(1) = 0");
        // no district may come to have no place, none may fall apart, none may be of another size
        s.run(line(1000, new int[2], 9), "put(1, 1); better() = 0; at(0) = 0; at(1) = 1");
        s.run(Script.made("place(0, 0, 0, 1, 0); place(0, 0, 0, 1, 0); place(0, 0, 0, 1, 0); place(0, 0, 0, 1, 0);"
            + "border(0, 1, 1); border(0, 2, 1); border(0, 3, 9); put(3, 1)"), "better() = 0; at(0) = 0; border(1, 2, 1) = 3;"
            + "better() = 1; at(0) = 1; measure(0) = 2");
        s.run(line(0, new int[] {1, 1, 1, 1}, 1, 9, 1), "put(2, 1); put(3, 1); better() = 0");
        s.run(line(499, new int[] {1, 1, 1, 1}, 1, 9, 1), "put(2, 1); put(3, 1); better() = 0");
        s.run(line(500, new int[] {1, 1, 1, 1}, 1, 9, 1), "put(2, 1); put(3, 1); better() = 1; measure(0) = 1");
        s.run(line(1000, new int[] {1, 1, 1, 1}, 1, 9, 1), "put(2, 1); put(3, 1); fix(1, 0); fix(2, 1); better() = 0; fix(2, 0) = 1;"
            + "better() = KIND; fix(2, -1); better() = 1; at(1) = 0; at(2) = 0");
        s.run(Script.made("place(0, 0, 0, 1, 0); law(1, 0)"), "better() = 0");
        s.run(Lands.line(new int[7], 9, 9, 9, 9, 1, 2), "law(6, 0); put(1, 1); put(2, 2); put(3, 3); put(4, 4); put(5, 4);"
            + "put(6, 5); measure(0) = 38; better() = 1; at(4) = 3; at(5) = 4; at(6) = 5; measure(0) = 30; better() = 0");
        s.of(section, "the least place that can, to the least such district, is.");
        s.run(line(1000, new int[4], 5, 9, 3), "put(2, 1); put(3, 1); better() = 1; at(0) = 0; at(1) = 1; at(2) = 1; measure(0) = 5");
        s.run(line(1000, new int[4], 5, 9, 3), "put(2, 1); put(3, 1); fix(1, 0); better() = 1; at(2) = 0; measure(0) = 3");
        leastDistrict();
        s.of(section, "How many were moved.");
        // place 0 goes to district 1 first, for the edge falls by one, and to district 2 then: two moves of one place
        s.run(star(5, 2), "better() = 2; at(0) = 2; at(1) = 0; better() = 0");
        int[] lengths = new int[29];
        for (int i = 0; i < 29; i++) {
            lengths[i] = i + 1;
        }
        s.run(line(1000, new int[30], lengths), "put(29, 1); better() = 28; measure(0) = 1; at(0) = 0; at(1) = 1; at(29) = 1");
    }

    /** Place 0 in the midst of place 1 (district 0), 2 (district 2) and 3 (district 1). */
    private static DistrictCutter star(int toSecond, int toFirst) {
        return Script.made("place(0, 0, 0, 1, 0); place(0, 0, 0, 1, 0); place(0, 0, 0, 1, 0); place(0, 0, 0, 1, 0);"
            + "border(0, 1, 1); border(0, 2, " + toSecond + "); border(0, 3, " + toFirst + "); law(3, 0); put(2, 2); put(3, 1)");
    }

    private void leastDistrict() {
        s.run(star(2, 2), "better() = 1; at(0) = 1; measure(0) = 3");
        s.run(star(2, 1), "better() = 1; at(0) = 2");
        s.run(star(1, 2), "better() = 1; at(0) = 1");
        s.run(star(1, 1), "better() = 0; at(0) = 0");
    }

    private void betterRefused() {
        s.of("Promise 25: better", "EMPTY, KIND.");
        s.run("better() = EMPTY; law(1, 0); better() = EMPTY; place(0, 0, 0, 1, 0); better() = 0; law(2, 0); better() = KIND");
        s.run(line(1000, new int[3], 1, 2), "better() = KIND; at(0) = 0; put(1, 1); better() = KIND; at(1) = 1; put(2, 1);"
            + "better() = 0");
    }

    private void mendNumbers() {
        String section = "Promise 26: mend";
        s.of(section, "Of all LAWFUL PARTINGS in which at most n (0 .. 2) places are elsewhere than in THE PARTING");
        String making = "place(1, 0, 0, 1, 0); place(1, 0, 0, 1, 1); place(1, 0, 0, 1, 2); border(0, 1, 1); border(1, 2, 1);"
            + "law(3, 0);";
        s.within(making, "mend(?)", 0, 2);
        s.run(Script.made(making), "mend(0) = -6; mend(1) = -6; at(1) = 0; at(2) = 0; mend(2) = 2; lawful() = 0; mend(0) = 0;"
            + "mend(1) = 0; mend(2) = 0");
        s.run(Script.made(making + "put(1, 1)"), "mend(0) = -6; mend(1) = 1; lawful() = 0");
        s.run(Script.made(making + "put(1, 1); put(2, 2)"), "mend(0) = 0; at(0) = 0; at(1) = 1; at(2) = 2");
        s.of(section, "THE PARTING becomes that: how many PEOPLE are elsewhere.");
        s.run(Script.made("place(1000, 0, 0, 1, 0); place(1000, 0, 0, 1, 1); place(1000, 0, 0, 1, 2); law(3, 0)"),
            "mend(2) = 2000; at(0) = 0; at(1) = 1; at(2) = 2; lawful() = 0; district(0, 0) = 1; district(1, 1) = 1000");
        s.run(Script.made("place(0, 0, 0, 1, 0); place(0, 0, 0, 1, 1)"), "mend(1) = 0; at(0) = 0; at(1) = 1; lawful() = 0");
        s.of(section, "-6: there is none.");
        DistrictCutter four = Lands.line(new int[] {1, 1, 1, 1});
        s.run(four, "law(4, 0); mend(2) = -6; at(0) = 0; at(1) = 0; at(2) = 0; at(3) = 0; put(3, 3); mend(1) = -6; at(3) = 3;"
            + "mend(2) = 2; lawful() = 0");
        s.run(Script.made(making + "fix(0, 1); fix(1, 0); fix(2, 0)"), "mend(2) = -6; at(0) = 0; at(1) = 0; at(2) = 0; land(5) = 3");
        s.run("place(0, 0, 0, 1, 0); mend(0) = -6; mend(1) = -6; mend(2) = -6; at(0) = 0; law(1, 0); mend(0) = 0; mend(2) = 0");
        s.run(line(0, new int[] {1, 2}), "mend(2) = -6; law(2, 333); mend(2) = -6; law(2, 334); mend(2) = 1; at(0) = 1; at(1) = 0");
    }

    private void mendChoice() {
        String section = "Promise 26: mend";
        s.of(section, "the one for which those that are have the fewest PEOPLE together;");
        // one place of 9, or two of 1 each
        s.run(line(1000, new int[] {9, 1, 1, 9, 1}), "put(1, 1); put(2, 1); put(4, 1); mend(1) = 9; at(3) = 1");
        s.run(line(1000, new int[] {9, 1, 1, 9, 1}), "put(1, 1); put(2, 1); put(4, 1); mend(2) = 2; at(1) = 0; at(2) = 0; at(3) = 0;"
            + "at(4) = 1");
        s.run(line(0, new int[] {5, 3, 3, 5}), "put(1, 1); put(2, 1); put(3, 1); mend(2) = 3; at(1) = 0; at(0) = 0");
        s.of(section, "of several with the fewest such places;");
        // nobody lives in places 1 and 2: one of them moved is as good as both, and districts that come first do not count yet
        s.run(line(0, new int[] {4, 0, 0, 4}), "put(1, 1); put(3, 1); mend(2) = 0; at(1) = 0; at(2) = 0; at(3) = 1");
        s.run(line(0, new int[] {4, 0, 0, 0, 4}), "put(1, 1); put(2, 1); put(4, 1); put(3, 0); mend(2) = 0; at(1) = 1; at(2) = 1;"
            + "at(3) = 1");
        // two of 1 each or one of 2
        s.run(line(1000, new int[] {9, 1, 1, 2, 9}), "put(1, 1); put(2, 1); put(4, 1); mend(2) = 2; at(1) = 1; at(2) = 1; at(3) = 1");
        s.of(section, "of several the one whose districts come first (place 0's first; the lesser):");
        s.run(line(0, new int[] {5, 3, 3, 5}), "mend(2) = 8; at(0) = 0; at(1) = 0; at(2) = 1; at(3) = 1");
        s.run(line(0, new int[] {5, 3, 3, 5}), "put(0, 1); put(1, 1); put(2, 1); put(3, 1); mend(2) = 8; at(0) = 0; at(1) = 0;"
            + "at(2) = 1; at(3) = 1");
        s.run(line(0, new int[] {1, 1}), "put(0, 1); put(1, 1); mend(1) = 1; at(0) = 0; at(1) = 1");
        s.run(line(0, new int[] {1, 1}), "mend(1) = 1; at(0) = 0; at(1) = 1");
        s.run(Script.made("place(1, 0, 0, 1, 0); place(1, 0, 0, 1, 0); place(1, 0, 0, 1, 0); law(3, 0); put(0, 2); put(1, 2); put(2, 2)"),
            "mend(2) = 2; at(0) = 0; at(1) = 1; at(2) = 2");
        lastTwoOfThirty();
    }

    /** Six districts of five places: the first and the last place of the line are elsewhere. */
    private void lastTwoOfThirty() {
        int[] people = new int[30];
        java.util.Arrays.fill(people, 1000);
        DistrictCutter x = Lands.line(people);
        x.law(6, 0);
        for (int p = 0; p < 30; p++) {
            x.put(p, p / 5);
        }
        s.run(x, "put(0, 5); put(29, 0); mend(0) = -6; mend(1) = -6; mend(2) = 2000; at(0) = 0; at(29) = 5; lawful() = 0");
    }

    private void mendRefused() {
        s.of("Promise 26: mend", "NONE, EMPTY.");
        s.run("mend(0) = EMPTY; mend(2) = EMPTY; mend(-1) = NONE; mend(3) = NONE; mend(MIN) = NONE; mend(MAX) = NONE");
        s.run(line(0, new int[] {1, 1}), "mend(-1) = NONE; mend(3) = NONE; at(0) = 0; at(1) = 0; mend(1) = 1; mend(3) = NONE;"
            + "mend(-1) = NONE; mend(MIN) = NONE; mend(MAX) = NONE");
    }
}
